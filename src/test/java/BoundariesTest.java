/**
 * The boundary cases of the document, with answers worked out by hand. Each
 * test bears the sentence, or the part of one, that it is for, in the
 * document's words or, where the case only follows from them, in short.
 */
public final class BoundariesTest {
    private static final int NONE = SprinkleNets.NONE;
    private static final int LEAST = Integer.MIN_VALUE;
    private static final int GREATEST = Integer.MAX_VALUE;

    private static int wrong = 0;
    private static int tests = 0;
    private static String sentence = "";

    private interface Call {
        Object answer();
    }

    private static void forSentence(String text, Runnable test) {
        sentence = text;
        tests++;
        try {
            test.run();
        } catch (RuntimeException e) {
            wrong++;
            System.out.println("[" + sentence + "] broke off by " + e);
        }
    }

    private static void due(String what, Object want, Call call) {
        Object got;
        try {
            got = call.answer();
        } catch (RuntimeException e) {
            got = e.getClass().getSimpleName();
        }
        if (!want.equals(got)) {
            wrong++;
            System.out.println("[" + sentence + "] " + what + " answered " + got + ", due is " + want);
        }
    }

    private static void illegalArgument(String what, Call call) {
        due(what, "IllegalArgumentException", call);
    }

    private static void illegalState(String what, Call call) {
        due(what, "IllegalStateException", call);
    }

    public static void main(String[] args) {
        terms();
        promises1To4();
        promises5To9();
        promises10To14();
        System.out.println(wrong == 0 ? tests + " boundary cases hold" : wrong + " answers are not as due");
        if (wrong != 0) {
            System.exit(1);
        }
    }

    private static void terms() {
        forSentence("used for at most 512 calls", BoundariesTest::theLastOf512Calls);
        forSentence("x 0 .. W - 1, y 0 .. H - 1", BoundariesTest::cornersOfThePlan);
        forSentence("REACH (1 .. 400, at first 16)", BoundariesTest::boundsOfReach);
        forSentence("REACH is the greatest square of the distance", BoundariesTest::justReachedAndJustNot);
        forSentence("REACH 400 is less than the plan's longest line", BoundariesTest::greatestReach);
        forSentence("SEEN, if both are free", BoundariesTest::bothEndsFree);
        forSentence("no inner place of a wall's square", BoundariesTest::throughAnInnerPlace);
        forSentence("it may go along its sides", BoundariesTest::besideWalls);
        forSentence("or through its corners", BoundariesTest::throughCorners);
        forSentence("a corner is passed, an inner place just behind it is not", BoundariesTest::justPastACorner);
        forSentence("PLACES 0 .. 11", BoundariesTest::twelvePlaces);
        forSentence("free cells when they are told", BoundariesTest::placesThatBecomeWalls);
        forSentence("ENOUGH, if each free cell is reached", BoundariesTest::wallsNeedNoWater);
        forSentence("from one of them that is free", BoundariesTest::walledHeadsReachNothing);
        forSentence("the SOURCE, cell (0, 0) (whether free or not)", BoundariesTest::sourceFreeOrNot);
        forSentence("a place in the SOURCE's own cell", BoundariesTest::placeAtTheSource);
        forSentence("of several the one of least number", BoundariesTest::tiesByNumber);
        forSentence("to what is joined first (the source, ..", BoundariesTest::tiesWithTheSource);
        forSentence(".. then as they were joined)", BoundariesTest::tiesByJoining);
        forSentence("its HEADS are the place's and all that hang on it", BoundariesTest::headsOfAChain);
        forSentence("the least of those that are told for so many heads", BoundariesTest::sizeJustEnough);
        forSentence("the greatest one is for all others", BoundariesTest::sizeForAllOthers);
        forSentence("without sizes LOSS is 0", BoundariesTest::withoutSizes);
        forSentence("length times loss times its heads, at the greatest", BoundariesTest::greatestLack);
    }

    private static void promises1To4() {
        forSentence("1: below 1 counts as 1", BoundariesTest::plansTooSmall);
        forSentence("1: above 16 as 16", BoundariesTest::plansTooLarge);
        forSentence("1: all free", BoundariesTest::newCellsAreFree);
        forSentence("2: a cell is a wall, or not: whether it was", BoundariesTest::wallTwice);
        forSentence("2: illegal argument", BoundariesTest::wallRefused);
        forSentence("3: what it was", BoundariesTest::reachWas);
        forSentence("3: illegal argument", BoundariesTest::reachRefused);
        forSentence("4: illegal argument", BoundariesTest::placeNoCell);
        forSentence("4: the cell is a wall", BoundariesTest::placeInAWall);
        forSentence("4: it is a place already", BoundariesTest::placeTwice);
        forSentence("4: or there are 12", BoundariesTest::placeThirteen);
        forSentence("4: the one named first is thrown", BoundariesTest::placeArgumentFirst);
    }

    private static void promises5To9() {
        forSentence("5: also itself, if it is free", BoundariesTest::seenFromItself);
        forSentence("5: illegal argument", BoundariesTest::seenRefused);
        forSentence("6: 0 if it is a wall now", BoundariesTest::reachedOfAWall);
        forSentence("6: how many cells, at the least and the most", BoundariesTest::reachedLeastAndMost);
        forSentence("6: illegal argument", BoundariesTest::reachedRefused);
        forSentence("7: the empty set, the full set", BoundariesTest::leftEmptyAndFull);
        forSentence("7: no free cell", BoundariesTest::leftOfAFullPlan);
        forSentence("7: also for bits of no place", BoundariesTest::leftRefused);
        forSentence("8: the k-th (by y, then x), the first and the last", BoundariesTest::dryFirstAndLast);
        forSentence("8: NONE", BoundariesTest::dryPastTheLast);
        forSentence("8: as left(), or k is below 0", BoundariesTest::dryRefused);
        forSentence("9: NONE if there is none", BoundariesTest::bestNone);
        forSentence("9: no free cell: the empty set is enough", BoundariesTest::bestOfAFullPlan);
        forSentence("9: of the fewest places", BoundariesTest::bestFewest);
        forSentence("9: of these the least as a number", BoundariesTest::bestLeast);
        forSentence("9: all twelve are needed", BoundariesTest::bestAllTwelve);
    }

    private static void promises10To14() {
        forSentence("10: HEADS (1 .. 12)", BoundariesTest::boundsOfHeads);
        forSentence("10: LOSS (0 .. 1000)", BoundariesTest::boundsOfLoss);
        forSentence("10: in the place of one that was told for as many", BoundariesTest::sizeTwice);
        forSentence("10: how many sizes there are", BoundariesTest::sizesFull);
        forSentence("11: the empty set", BoundariesTest::pipesOfNone);
        forSentence("11: the full set", BoundariesTest::pipesOfTwelve);
        forSentence("11: as left()", BoundariesTest::pipesRefused);
        forSentence("12: its upper place (NONE: the source)", BoundariesTest::upperOrSource);
        forSentence("12: when it was joined (0 the first)", BoundariesTest::firstAndLastJoined);
        forSentence("12: NONE if the place is not in the set", BoundariesTest::pipeNotInTheSet);
        forSentence("12: illegal argument, what", BoundariesTest::pipeRefusedWhat);
        forSentence("12: illegal argument, place", BoundariesTest::pipeRefusedPlace);
        forSentence("12: illegal argument, set", BoundariesTest::pipeRefusedSet);
        forSentence("13: NONE if it is not in it", BoundariesTest::lacksNotInTheSet);
        forSentence("13: illegal argument", BoundariesTest::lacksRefused);
        forSentence("14: NONE for the empty set", BoundariesTest::worstOfNone);
        forSentence("14: of several the least number", BoundariesTest::worstTies);
        forSentence("14: lacks most", BoundariesTest::worstIsTheLast);
        forSentence("14: illegal argument", BoundariesTest::worstRefused);
    }

    // ---- terms

    private static SprinkleNets row(int w, int... xs) {
        SprinkleNets nets = new SprinkleNets(w, 1);
        for (int x : xs) {
            nets.place(x, 0);
        }
        return nets;
    }

    private static SprinkleNets twelveInARow() {
        return row(13, 0, 1, 2, 3, 4, 5, 6, 7, 8, 9, 10, 11);
    }

    private static void theLastOf512Calls() {
        SprinkleNets nets = new SprinkleNets(16, 16);
        due("call 1", 0, () -> nets.place(0, 0));
        for (int call = 2; call <= 511; call++) {
            boolean on = call % 2 == 0;
            due("call " + call, !on, () -> nets.wall(1, 0, on));
        }
        due("call 512", 256, () -> nets.left(0));
    }

    private static void cornersOfThePlan() {
        SprinkleNets nets = new SprinkleNets(5, 3);
        due("first corner", 0, () -> nets.place(0, 0));
        due("last of the first row", 1, () -> nets.place(4, 0));
        due("first of the last row", 2, () -> nets.place(0, 2));
        due("last corner", 3, () -> nets.place(4, 2));
        illegalArgument("x W", () -> nets.place(5, 0));
        illegalArgument("y H", () -> nets.place(0, 3));
        illegalArgument("x W in the last row", () -> nets.seen(5, 2, 0, 0));
        illegalArgument("y H in the last column", () -> nets.seen(0, 0, 4, 3));
        illegalArgument("x and y turned", () -> nets.wall(2, 4, true));
    }

    private static void boundsOfReach() {
        SprinkleNets nets = new SprinkleNets(2, 2);
        due("at first 16, the least is 1", 16, () -> nets.reach(1));
        due("the greatest is 400", 1, () -> nets.reach(400));
        illegalArgument("one too small", () -> nets.reach(0));
        illegalArgument("one too large", () -> nets.reach(401));
        due("stands", 400, () -> nets.reach(2));
    }

    private static void justReachedAndJustNot() {
        SprinkleNets nets = row(16, 0);
        due("16 at first: cell 4 is reached, cell 5 is not", 5, () -> nets.dry(1, 0));
        nets.reach(15);
        due("15 leaves cell 4", 4, () -> nets.dry(1, 0));
        nets.reach(25);
        due("25 is 5 cells away", 6, () -> nets.dry(1, 0));
        nets.reach(24);
        due("24 is not", 5, () -> nets.dry(1, 0));
        SprinkleNets slope = new SprinkleNets(5, 4);
        slope.place(0, 0);
        slope.reach(25);
        due("3 and 4: 25", 0, () -> slope.left(1));
        slope.reach(24);
        due("3 and 4: not within 24", 304, () -> slope.dry(1, 0));
        due("and that alone", NONE, () -> slope.dry(1, 1));
    }

    private static void greatestReach() {
        SprinkleNets nets = new SprinkleNets(16, 16);
        nets.place(0, 0);
        nets.reach(400);
        // 13, 15: 394 is reached, 14, 15: 421 and 15, 15: 450 are not.
        due("first too far", 1415, () -> nets.dry(1, 0));
        due("second too far", 1514, () -> nets.dry(1, 1));
        due("third too far", 1515, () -> nets.dry(1, 2));
        due("no more", NONE, () -> nets.dry(1, 3));
        nets.reach(393);
        due("393 leaves 13, 15 too", 5, () -> nets.left(1));
        nets.reach(394);
        due("394 does not", 3, () -> nets.left(1));
        due("but they are seen", true, () -> nets.seen(0, 0, 15, 15));
    }

    private static void bothEndsFree() {
        SprinkleNets nets = new SprinkleNets(3, 1);
        nets.wall(0, 0, true);
        due("from a wall", false, () -> nets.seen(0, 0, 1, 0));
        due("to a wall", false, () -> nets.seen(1, 0, 0, 0));
        nets.wall(1, 0, true);
        due("wall to wall", false, () -> nets.seen(0, 0, 1, 0));
        nets.wall(0, 0, false);
        nets.wall(1, 0, false);
        due("free again", true, () -> nets.seen(0, 0, 1, 0));
    }

    private static void throughAnInnerPlace() {
        SprinkleNets nets = new SprinkleNets(16, 16);
        nets.wall(1, 1, true);
        due("straight through", false, () -> nets.seen(0, 1, 15, 1));
        due("across from corner to corner", false, () -> nets.seen(0, 0, 2, 2));
        // (0, 0) to (14, 15), at x = 2: y = 1 + 15 / 14, just over 2: in (1, 1).
        due("from a hair past its corner", false, () -> nets.seen(0, 0, 14, 15));
        due("and the other way", false, () -> nets.seen(14, 15, 0, 0));
        SprinkleNets thin = new SprinkleNets(16, 16);
        // (0, 0) to (15, 14), at x = 2: y = 1 + 14 / 15, just below 2, so that
        // the line cuts (1, 0) in the corner for a fifteenth; (14, 15) cuts (0, 1).
        thin.wall(1, 0, true);
        due("only a corner is cut off", false, () -> thin.seen(0, 0, 15, 14));
        due("the other slope does not", true, () -> thin.seen(0, 0, 14, 15));
        thin.wall(1, 0, false);
        thin.wall(0, 1, true);
        due("nor here", true, () -> thin.seen(0, 0, 15, 14));
        due("but this does", false, () -> thin.seen(0, 0, 14, 15));
    }

    private static void besideWalls() {
        SprinkleNets nets = new SprinkleNets(16, 3);
        for (int x = 0; x < 16; x++) {
            nets.wall(x, 0, true);
            nets.wall(x, 2, true);
        }
        due("a row between walls", true, () -> nets.seen(0, 1, 15, 1));
        due("and back", true, () -> nets.seen(15, 1, 0, 1));
        SprinkleNets up = new SprinkleNets(3, 16);
        for (int y = 0; y < 16; y++) {
            up.wall(0, y, true);
            up.wall(2, y, true);
        }
        due("a column between walls", true, () -> up.seen(1, 0, 1, 15));
        due("and up", true, () -> up.seen(1, 15, 1, 0));
    }

    private static void throughCorners() {
        SprinkleNets nets = new SprinkleNets(16, 16);
        for (int cell = 0; cell < 256; cell++) {
            nets.wall(cell % 16, cell / 16, cell % 16 != cell / 16);
        }
        due("down a diagonal between walls", true, () -> nets.seen(0, 0, 15, 15));
        due("and up", true, () -> nets.seen(15, 15, 0, 0));
        SprinkleNets other = new SprinkleNets(16, 16);
        for (int cell = 0; cell < 256; cell++) {
            other.wall(cell % 16, cell / 16, cell % 16 + cell / 16 != 15);
        }
        due("the other diagonal", true, () -> other.seen(15, 0, 0, 15));
        due("and back", true, () -> other.seen(0, 15, 15, 0));
    }

    private static void justPastACorner() {
        SprinkleNets nets = new SprinkleNets(4, 2);
        // (0, 0) to (3, 1) goes through (0, 0), (1, 0), (2, 1), (3, 1) alone.
        nets.wall(2, 0, true);
        nets.wall(3, 0, true);
        nets.wall(0, 1, true);
        nets.wall(1, 1, true);
        due("the corner alone", true, () -> nets.seen(0, 0, 3, 1));
        due("the corner alone, back", true, () -> nets.seen(3, 1, 0, 0));
        nets.wall(2, 1, true);
        due("the cell behind the corner", false, () -> nets.seen(0, 0, 3, 1));
        nets.wall(2, 1, false);
        nets.wall(1, 0, true);
        due("the cell before the corner", false, () -> nets.seen(0, 0, 3, 1));
    }

    private static void twelvePlaces() {
        SprinkleNets nets = new SprinkleNets(12, 1);
        for (int x = 0; x < 12; x++) {
            int at = x;
            illegalArgument("no place " + x + " yet", () -> nets.reached(at));
            illegalArgument("no bit " + x + " yet", () -> nets.left(1 << at));
            due("numbers as they come", at, () -> nets.place(11 - at, 0));
            due("bit " + x, 12 - nets.reached(x), () -> nets.left(1 << at));
        }
        illegalArgument("no place 12", () -> nets.reached(12));
    }

    private static void placesThatBecomeWalls() {
        SprinkleNets nets = row(6, 2, 3);
        nets.wall(2, 0, true);
        due("it is a place still", 0, () -> nets.reached(0));
        due("its bit too", 5, () -> nets.left(1));
        due("the next number is not its own", 2, () -> nets.place(4, 0));
        due("it is joined still", 2, () -> nets.pipes(1));
        nets.wall(2, 0, false);
        due("and a head again", 6, () -> nets.reached(0));
    }

    private static void wallsNeedNoWater() {
        SprinkleNets nets = row(4, 0);
        nets.reach(1);
        due("two are left", NONE, () -> nets.best());
        nets.wall(2, 0, true);
        due("one is left", NONE, () -> nets.best());
        nets.wall(3, 0, true);
        due("none is left", 1, () -> nets.best());
    }

    private static void walledHeadsReachNothing() {
        SprinkleNets nets = row(3, 1);
        due("enough", 1, () -> nets.best());
        nets.wall(1, 0, true);
        due("the head is a wall", NONE, () -> nets.best());
        due("leaves all", 2, () -> nets.left(1));
        nets.place(0, 0);
        nets.place(2, 0);
        due("the free ones do", 6, () -> nets.best());
        due("the walled one adds nothing", 0, () -> nets.left(7));
        nets.wall(1, 0, false);
        due("and is the best again", 1, () -> nets.best());
    }

    private static void sourceFreeOrNot() {
        SprinkleNets nets = new SprinkleNets(4, 4);
        nets.place(3, 2);
        due("free", 5, () -> nets.pipes(1));
        nets.wall(0, 0, true);
        due("a wall", 5, () -> nets.pipes(1));
        due("upper", NONE, () -> nets.pipe(1, 0, 0));
        nets.wall(2, 2, true);
        nets.wall(3, 1, true);
        due("walls on the way", 5, () -> nets.pipe(1, 0, 1));
    }

    private static void placeAtTheSource() {
        SprinkleNets nets = row(4, 3, 0);
        nets.size(12, 1000);
        due("length 0", 0, () -> nets.pipe(3, 1, 1));
        due("joined first", 0, () -> nets.pipe(3, 1, 4));
        due("its upper is the source", NONE, () -> nets.pipe(3, 1, 0));
        due("it lacks nothing", 0, () -> nets.lacks(3, 1));
        due("the source was there before it", NONE, () -> nets.pipe(3, 0, 0));
        due("so nothing hangs on it", 1, () -> nets.pipe(3, 1, 2));
        due("of the set of it alone", 0, () -> nets.pipes(2));
        due("it is the worst of that set", 1, () -> nets.worst(2));
    }

    private static void tiesByNumber() {
        SprinkleNets nets = new SprinkleNets(4, 4);
        nets.place(0, 3);
        nets.place(3, 0);
        nets.place(1, 2);
        nets.place(2, 1);
        // All are 3 from the source; then 2 is 2 from 0, and 3 is 2 from both 1 and 2.
        due("0 goes first", 0, () -> nets.pipe(15, 0, 4));
        due("of 3 and 1 it is 1 in the set without 0 and 2", 0, () -> nets.pipe(10, 1, 4));
        due("2 is nearer than 1 then", 1, () -> nets.pipe(15, 2, 4));
        due("3 before 1", 2, () -> nets.pipe(15, 3, 4));
        due("1 goes last", 3, () -> nets.pipe(15, 1, 4));
    }

    private static void tiesWithTheSource() {
        SprinkleNets nets = new SprinkleNets(8, 8);
        nets.place(2, 0);
        nets.place(1, 1);
        nets.place(0, 2);
        // Each is 2 from the source and 2 from the next one.
        due("0", NONE, () -> nets.pipe(7, 0, 0));
        due("1", NONE, () -> nets.pipe(7, 1, 0));
        due("2", NONE, () -> nets.pipe(7, 2, 0));
        due("2 hangs on nothing else", 1, () -> nets.pipe(7, 1, 2));
    }

    private static void tiesByJoining() {
        SprinkleNets turned = new SprinkleNets(8, 8);
        turned.place(4, 2);
        turned.place(1, 2);
        turned.place(4, 5);
        turned.place(1, 5);
        // Joined: 1 (3), 0 (3 from 1), 2 (3 from 0), 3: 3 from 1 and from 2.
        due("1 goes first", 0, () -> turned.pipe(15, 1, 4));
        due("0 goes second", 1, () -> turned.pipe(15, 0, 4));
        due("2 goes third", 2, () -> turned.pipe(15, 2, 4));
        due("2 hangs on 0", 0, () -> turned.pipe(15, 2, 0));
        due("3 hangs on 1, that was joined before 2", 1, () -> turned.pipe(15, 3, 0));
        SprinkleNets late = new SprinkleNets(8, 8);
        late.place(4, 5);
        late.place(1, 5);
        late.place(4, 2);
        late.place(1, 2);
        // Joined: 3 (3), 1 (3 from 3), 0 (3 from 1), 2: 3 from 3 and from 0.
        due("the greater number was joined first", 3, () -> late.pipe(15, 2, 0));
    }

    private static void headsOfAChain() {
        SprinkleNets nets = twelveInARow();
        due("the source's own hangs alone", 1, () -> nets.pipe(4095, 0, 2));
        due("the first of a chain of eleven", 11, () -> nets.pipe(4095, 1, 2));
        due("the last", 1, () -> nets.pipe(4095, 11, 2));
        due("those out of the set do not count", 2, () -> nets.pipe(4 + 32, 2, 2));
        SprinkleNets far = row(13, 12, 11, 10, 9, 8, 7, 6, 5, 4, 3, 2, 1);
        due("all twelve hang on one", 12, () -> far.pipe(4095, 11, 2));
        due("of the set of two after that", 2, () -> far.pipe(2048 + 1, 11, 2));
        SprinkleNets two = row(5, 4, 2);
        due("the nearer one was told last", 2, () -> two.pipe(3, 1, 2));
        due("and the farther one hangs on it", 1, () -> two.pipe(3, 0, 2));
    }

    private static SprinkleNets fiveInAChain() {
        return row(6, 1, 2, 3, 4, 5);
    }

    private static void sizeJustEnough() {
        SprinkleNets nets = fiveInAChain();
        nets.size(2, 20);
        nets.size(4, 40);
        due("1 head", 20, () -> nets.pipe(31, 4, 3));
        due("2 heads: just enough", 20, () -> nets.pipe(31, 3, 3));
        due("3 heads: one too many for 2", 40, () -> nets.pipe(31, 2, 3));
        due("4 heads: just enough", 40, () -> nets.pipe(31, 1, 3));
        nets.size(3, 700);
        due("least by heads, not by loss", 700, () -> nets.pipe(31, 2, 3));
        nets.size(1, 1000);
        due("1 of its own", 1000, () -> nets.pipe(31, 4, 3));
    }

    private static void sizeForAllOthers() {
        SprinkleNets nets = row(13, 12, 11, 10, 9, 8, 7, 6, 5, 4, 3, 2, 1);
        nets.size(1, 9);
        due("the only one, for 12", 9, () -> nets.pipe(4095, 11, 3));
        nets.size(11, 3);
        due("the greatest, for 12", 3, () -> nets.pipe(4095, 11, 3));
        nets.size(5, 800);
        due("greatest by heads, not the last told, not by loss", 3, () -> nets.pipe(4095, 11, 3));
        nets.size(11, 0);
        due("with a loss of 0 too", 0, () -> nets.pipe(4095, 11, 3));
        nets.size(12, 1);
        due("its own", 1, () -> nets.pipe(4095, 11, 3));
    }

    private static void withoutSizes() {
        SprinkleNets nets = fiveInAChain();
        due("loss", 0, () -> nets.pipe(31, 0, 3));
        due("lacks", 0, () -> nets.lacks(31, 4));
        due("length stands", 5, () -> nets.pipes(31));
        illegalArgument("a size refused", () -> nets.size(13, 7));
        illegalArgument("a loss refused", () -> nets.size(5, 1001));
        due("is none", 0, () -> nets.pipe(31, 0, 3));
    }

    private static void greatestLack() {
        SprinkleNets nets = new SprinkleNets(16, 16);
        nets.place(15, 15);
        nets.size(1, 1000);
        due("one head in the farthest cell", 30000, () -> nets.lacks(1, 0));
        for (int y = 14; y >= 4; y--) {
            nets.place(15, y);
        }
        // The first pipe goes to (15, 4): 19 long for 12 heads; then 1 long for 11 .. 1.
        due("twelve heads", 19 * 12 * 1000 + 66 * 1000, () -> nets.lacks(4095, 0));
        due("the first of them", 19 * 12 * 1000, () -> nets.lacks(4095, 11));
    }

    // ---- promises 1 to 4

    private static void planIs(int w, int h, int realW, int realH) {
        SprinkleNets nets = new SprinkleNets(w, h);
        String plan = w + " by " + h + ": ";
        due(plan + "cells", realW * realH, () -> nets.left(0));
        due(plan + "last cell", 100 * (realH - 1) + realW - 1, () -> nets.dry(0, realW * realH - 1));
        due(plan + "last cell is there", true, () -> nets.seen(realW - 1, realH - 1, realW - 1, realH - 1));
        illegalArgument(plan + "x past it", () -> nets.place(realW, 0));
        illegalArgument(plan + "y past it", () -> nets.place(0, realH));
    }

    private static void plansTooSmall() {
        planIs(1, 1, 1, 1);
        planIs(0, 0, 1, 1);
        planIs(-1, 7, 1, 7);
        planIs(7, -1, 7, 1);
        planIs(LEAST, 16, 1, 16);
        planIs(16, LEAST, 16, 1);
    }

    private static void plansTooLarge() {
        planIs(16, 16, 16, 16);
        planIs(15, 16, 15, 16);
        planIs(17, 17, 16, 16);
        planIs(17, 2, 16, 2);
        planIs(2, 17, 2, 16);
        planIs(GREATEST, 0, 16, 1);
        planIs(LEAST, GREATEST, 1, 16);
    }

    private static void newCellsAreFree() {
        SprinkleNets nets = new SprinkleNets(16, 16);
        for (int cell = 0; cell < 256; cell++) {
            int at = cell;
            due("cell " + cell, false, () -> nets.wall(at % 16, at / 16, false));
        }
        due("no place", NONE, () -> nets.best());
        due("no size", 1, () -> nets.size(12, 1000));
    }

    private static void wallTwice() {
        SprinkleNets nets = new SprinkleNets(2, 2);
        due("a free cell freed", false, () -> nets.wall(1, 0, false));
        due("a free cell walled", false, () -> nets.wall(1, 0, true));
        due("a wall walled", true, () -> nets.wall(1, 0, true));
        due("one wall", 3, () -> nets.left(0));
        due("a wall freed", true, () -> nets.wall(1, 0, false));
        due("and free", false, () -> nets.wall(1, 0, false));
        due("no wall", 4, () -> nets.left(0));
    }

    private static void wallRefused() {
        SprinkleNets nets = new SprinkleNets(3, 2);
        int[] noX = {-1, 3, 16, -16, LEAST, GREATEST};
        int[] noY = {-1, 2, 16, -16, 1 << 28, LEAST, GREATEST};
        for (int x : noX) {
            illegalArgument("x " + x, () -> nets.wall(x, 1, true));
            illegalArgument("x " + x + ", off", () -> nets.wall(x, 1, false));
        }
        for (int y : noY) {
            illegalArgument("y " + y, () -> nets.wall(1, y, true));
            illegalArgument("y " + y + ", off", () -> nets.wall(1, y, false));
        }
        due("no wall came", 6, () -> nets.left(0));
    }

    private static void reachWas() {
        SprinkleNets nets = row(3, 1);
        due("at first", 16, () -> nets.reach(400));
        due("the greatest", 400, () -> nets.reach(400));
        due("the same", 400, () -> nets.reach(1));
        due("the least", 1, () -> nets.reach(1));
    }

    private static void reachRefused() {
        SprinkleNets nets = row(6, 0);
        int[] no = {0, -1, 401, LEAST, GREATEST, 65536 + 4};
        for (int square : no) {
            illegalArgument("reach " + square, () -> nets.reach(square));
            due("reached as before " + square, 5, () -> nets.reached(0));
        }
        due("stands", 16, () -> nets.reach(25));
    }

    private static void placeNoCell() {
        SprinkleNets nets = new SprinkleNets(3, 2);
        int[] noX = {-1, 3, 16, LEAST, GREATEST};
        int[] noY = {-1, 2, 16, 1 << 28, LEAST, GREATEST};
        for (int x : noX) {
            illegalArgument("x " + x, () -> nets.place(x, 0));
        }
        for (int y : noY) {
            illegalArgument("y " + y, () -> nets.place(0, y));
        }
        due("the first is 0", 0, () -> nets.place(0, 0));
    }

    private static void placeInAWall() {
        SprinkleNets nets = new SprinkleNets(3, 2);
        nets.wall(2, 1, true);
        illegalState("a wall", () -> nets.place(2, 1));
        illegalState("once more", () -> nets.place(2, 1));
        due("another cell is 0", 0, () -> nets.place(1, 1));
        nets.wall(2, 1, false);
        due("no wall any more", 1, () -> nets.place(2, 1));
    }

    private static void placeTwice() {
        SprinkleNets nets = new SprinkleNets(3, 2);
        due("first", 0, () -> nets.place(2, 1));
        illegalState("at once again", () -> nets.place(2, 1));
        due("second", 1, () -> nets.place(1, 1));
        illegalState("the first again", () -> nets.place(2, 1));
        illegalState("the second again", () -> nets.place(1, 1));
        nets.wall(2, 1, true);
        illegalState("as a wall", () -> nets.place(2, 1));
        nets.wall(2, 1, false);
        illegalState("freed again", () -> nets.place(2, 1));
        due("same x, other y", 2, () -> nets.place(2, 0));
        due("same y, other x", 3, () -> nets.place(0, 1));
    }

    private static void placeThirteen() {
        SprinkleNets nets = twelveInARow();
        illegalState("a thirteenth", () -> nets.place(12, 0));
        illegalState("a place already, too", () -> nets.place(0, 0));
        nets.wall(12, 0, true);
        illegalState("a wall, too", () -> nets.place(12, 0));
        illegalArgument("there is no place 12", () -> nets.reached(12));
        illegalArgument("nor its bit", () -> nets.pipes(4096));
        due("place 0 stands", 11, () -> nets.pipes(4095));
    }

    private static void placeArgumentFirst() {
        SprinkleNets nets = twelveInARow();
        illegalArgument("no cell, and there are 12", () -> nets.place(13, 0));
        illegalArgument("no row, and there are 12", () -> nets.place(0, 1));
        illegalArgument("below 0, and there are 12", () -> nets.place(-1, -1));
    }

    // ---- promises 5 to 9

    private static void seenFromItself() {
        SprinkleNets nets = new SprinkleNets(1, 1);
        due("free", true, () -> nets.seen(0, 0, 0, 0));
        nets.wall(0, 0, true);
        due("a wall", false, () -> nets.seen(0, 0, 0, 0));
        nets.wall(0, 0, false);
        due("free again", true, () -> nets.seen(0, 0, 0, 0));
    }

    private static void seenRefused() {
        SprinkleNets nets = new SprinkleNets(3, 2);
        int[] noX = {-1, 3, 16, LEAST, GREATEST};
        int[] noY = {-1, 2, 16, 1 << 28, LEAST, GREATEST};
        for (int x : noX) {
            illegalArgument("x " + x, () -> nets.seen(x, 0, 1, 1));
            illegalArgument("u " + x, () -> nets.seen(1, 1, x, 0));
            illegalArgument("x and u " + x, () -> nets.seen(x, 0, x, 0));
        }
        for (int y : noY) {
            illegalArgument("y " + y, () -> nets.seen(0, y, 1, 1));
            illegalArgument("v " + y, () -> nets.seen(1, 1, 0, y));
            illegalArgument("y and v " + y, () -> nets.seen(0, y, 0, y));
        }
        nets.wall(1, 1, true);
        illegalArgument("from a wall to no cell", () -> nets.seen(1, 1, 3, 1));
        illegalArgument("from no cell to a wall", () -> nets.seen(3, 1, 1, 1));
    }

    private static void reachedOfAWall() {
        SprinkleNets nets = row(3, 1);
        due("free", 3, () -> nets.reached(0));
        nets.wall(1, 0, true);
        due("a wall now", 0, () -> nets.reached(0));
        nets.wall(1, 0, false);
        due("free again", 3, () -> nets.reached(0));
    }

    private static void reachedLeastAndMost() {
        SprinkleNets nets = new SprinkleNets(16, 16);
        nets.place(7, 7);
        nets.reach(400);
        due("all cells", 256, () -> nets.reached(0));
        nets.wall(6, 7, true);
        nets.wall(8, 7, true);
        nets.wall(7, 6, true);
        nets.wall(7, 8, true);
        nets.reach(1);
        due("itself alone", 1, () -> nets.reached(0));
        nets.reach(2);
        due("and past the corners", 5, () -> nets.reached(0));
        SprinkleNets one = new SprinkleNets(1, 1);
        one.place(0, 0);
        due("the only cell", 1, () -> one.reached(0));
    }

    private static void reachedRefused() {
        SprinkleNets nets = row(3, 1, 2);
        int[] no = {-1, 2, 11, 12, 31, 32, 33, -32, LEAST, GREATEST};
        for (int place : no) {
            illegalArgument("place " + place, () -> nets.reached(place));
        }
        SprinkleNets none = new SprinkleNets(3, 3);
        illegalArgument("no places at all", () -> none.reached(0));
    }

    private static void leftEmptyAndFull() {
        SprinkleNets nets = twelveInARow();
        nets.reach(1);
        due("the empty set", 13, () -> nets.left(0));
        due("the full set", 0, () -> nets.left(4095));
        due("all but the last", 1, () -> nets.left(2047));
        due("the last alone", 10, () -> nets.left(2048));
        SprinkleNets none = new SprinkleNets(16, 16);
        due("the empty set is the full one", 256, () -> none.left(0));
    }

    private static void leftOfAFullPlan() {
        SprinkleNets nets = row(2, 0);
        nets.wall(0, 0, true);
        nets.wall(1, 0, true);
        due("the empty set", 0, () -> nets.left(0));
        due("the full set", 0, () -> nets.left(1));
        due("no dry cell", NONE, () -> nets.dry(0, 0));
    }

    private static final int[] SETS_OF_NO_TWO = {4, 5, 7, 8, 4096, 1 << 30, LEAST, LEAST + 1, -1, -4, GREATEST};

    private static void leftRefused() {
        SprinkleNets nets = row(3, 1, 2);
        for (int set : SETS_OF_NO_TWO) {
            illegalArgument("set " + set, () -> nets.left(set));
        }
        due("both bits", 0, () -> nets.left(3));
        SprinkleNets none = new SprinkleNets(2, 2);
        illegalArgument("no places at all", () -> none.left(1));
        SprinkleNets full = twelveInARow();
        illegalArgument("bit 12 of twelve", () -> full.left(4096));
        illegalArgument("all bits", () -> full.left(-1));
    }

    private static void dryFirstAndLast() {
        SprinkleNets nets = new SprinkleNets(16, 16);
        due("the first", 0, () -> nets.dry(0, 0));
        due("the last of the first row", 15, () -> nets.dry(0, 15));
        due("the first of the second row", 100, () -> nets.dry(0, 16));
        due("the last", 1515, () -> nets.dry(0, 255));
        nets.wall(0, 0, true);
        due("the first free one", 1, () -> nets.dry(0, 0));
        due("one less", 1515, () -> nets.dry(0, 254));
        nets.wall(15, 15, true);
        due("the last free one", 1514, () -> nets.dry(0, 253));
    }

    private static void dryPastTheLast() {
        SprinkleNets nets = row(3, 0);
        nets.reach(1);
        due("the only one", 2, () -> nets.dry(1, 0));
        due("past it", NONE, () -> nets.dry(1, 1));
        due("far past it", NONE, () -> nets.dry(1, GREATEST));
        nets.reach(4);
        due("no dry cell", NONE, () -> nets.dry(1, 0));
        SprinkleNets big = new SprinkleNets(16, 16);
        due("past the whole plan", NONE, () -> big.dry(0, 256));
    }

    private static void dryRefused() {
        SprinkleNets nets = row(3, 1, 2);
        for (int set : SETS_OF_NO_TWO) {
            illegalArgument("set " + set, () -> nets.dry(set, 0));
            illegalArgument("set " + set + " and k", () -> nets.dry(set, -1));
            illegalArgument("set " + set + " far k", () -> nets.dry(set, GREATEST));
        }
        illegalArgument("k -1", () -> nets.dry(0, -1));
        illegalArgument("k -1, no cell is dry", () -> nets.dry(3, -1));
        illegalArgument("least k", () -> nets.dry(0, LEAST));
    }

    private static void bestNone() {
        SprinkleNets nets = new SprinkleNets(1, 1);
        due("no place", NONE, () -> nets.best());
        nets.place(0, 0);
        due("one place", 1, () -> nets.best());
        SprinkleNets row = row(6, 0);
        due("one cell is too far", NONE, () -> row.best());
        row.reach(25);
        due("just not", 1, () -> row.best());
        row.wall(3, 0, true);
        due("behind a wall", NONE, () -> row.best());
    }

    private static void bestOfAFullPlan() {
        SprinkleNets nets = new SprinkleNets(1, 1);
        nets.wall(0, 0, true);
        due("no place", 0, () -> nets.best());
        nets.wall(0, 0, false);
        nets.place(0, 0);
        nets.wall(0, 0, true);
        due("a walled place", 0, () -> nets.best());
    }

    private static void bestFewest() {
        // Places 0 and 1 reach all together; with more reach place 10, a greater number, does alone.
        SprinkleNets nets = row(12, 2, 9, 0, 1, 3, 4, 7, 8, 10, 11, 6);
        nets.reach(16);
        due("two are needed", 3, () -> nets.best());
        nets.reach(36);
        due("the last one alone", 1024, () -> nets.best());
    }

    private static void bestLeast() {
        SprinkleNets nets = row(4, 3, 2, 1, 0);
        nets.reach(9);
        due("each alone is enough", 1, () -> nets.best());
        nets.wall(3, 0, true);
        due("place 0 is a wall", 2, () -> nets.best());
        nets.wall(3, 0, false);
        nets.reach(1);
        // Pairs that are enough: {0, 2} = 5, {0, 3} = 9, {1, 2} = 6, {1, 3} = 10.
        due("the least pair", 5, () -> nets.best());
        SprinkleNets bits = row(6, 1, 4, 0, 5);
        bits.reach(1);
        due("the low bits", 3, () -> bits.best());
        bits.wall(4, 0, true);
        // 3 and 5 are apart now, and nothing reaches 3.
        due("none", NONE, () -> bits.best());
        bits.wall(3, 0, true);
        // 0 .. 2 by place 0, 5 by place 3.
        due("the first and the last", 9, () -> bits.best());
    }

    private static void bestAllTwelve() {
        SprinkleNets nets = new SprinkleNets(16, 16);
        for (int cell = 0; cell < 256; cell++) {
            nets.wall(cell % 16, cell / 16, true);
        }
        for (int place = 0; place < 12; place++) {
            int x = place % 4 * 4;
            int y = place / 4 * 4;
            nets.wall(x, y, false);
            nets.place(x, y);
        }
        due("each has its own cell", 4095, () -> nets.best());
        nets.wall(15, 15, false);
        due("and one more that none reaches", NONE, () -> nets.best());
    }

    // ---- promises 10 to 14

    private static void boundsOfHeads() {
        SprinkleNets nets = new SprinkleNets(2, 2);
        due("the least", 1, () -> nets.size(1, 5));
        due("the greatest", 2, () -> nets.size(12, 5));
        int[] no = {0, -1, 13, LEAST, GREATEST};
        for (int heads : no) {
            illegalArgument("heads " + heads, () -> nets.size(heads, 5));
        }
        due("not counted", 2, () -> nets.size(1, 5));
    }

    private static void boundsOfLoss() {
        SprinkleNets nets = row(2, 1);
        due("the least", 1, () -> nets.size(1, 0));
        due("the greatest", 1, () -> nets.size(1, 1000));
        int[] no = {-1, 1001, LEAST, GREATEST};
        for (int loss : no) {
            illegalArgument("loss " + loss, () -> nets.size(1, loss));
            illegalArgument("a new size, loss " + loss, () -> nets.size(2, loss));
        }
        due("stands", 1000, () -> nets.pipe(1, 0, 3));
        due("none was counted", 1, () -> nets.size(1, 1));
    }

    private static void sizeTwice() {
        SprinkleNets nets = row(2, 1);
        nets.size(3, 30);
        nets.size(7, 70);
        due("told again", 2, () -> nets.size(3, 31));
        due("the new loss", 31, () -> nets.pipe(1, 0, 3));
        due("told again with 0", 2, () -> nets.size(3, 0));
        due("0 stands", 0, () -> nets.pipe(1, 0, 3));
        due("and from 0", 2, () -> nets.size(3, 30));
        due("is no new one", 30, () -> nets.pipe(1, 0, 3));
    }

    private static void sizesFull() {
        SprinkleNets nets = new SprinkleNets(2, 2);
        for (int heads = 12; heads >= 1; heads--) {
            int told = heads;
            due("size for " + heads, 13 - told, () -> nets.size(told, 0));
        }
        due("once more", 12, () -> nets.size(12, 1));
        due("and the least", 12, () -> nets.size(1, 1));
    }

    private static void pipesOfNone() {
        SprinkleNets nets = new SprinkleNets(2, 2);
        due("no places", 0, () -> nets.pipes(0));
        nets.place(1, 1);
        due("a place out of it", 0, () -> nets.pipes(0));
        due("the place", 2, () -> nets.pipes(1));
        due("the empty set again", 0, () -> nets.pipes(0));
    }

    private static void pipesOfTwelve() {
        SprinkleNets row = twelveInARow();
        due("twelve in a row", 11, () -> row.pipes(4095));
        SprinkleNets nets = new SprinkleNets(16, 16);
        for (int x = 4; x < 16; x++) {
            nets.place(x, 15);
        }
        due("twelve in the last row", 19 + 11, () -> nets.pipes(4095));
        due("the farthest alone", 30, () -> nets.pipes(2048));
    }

    private static void pipesRefused() {
        SprinkleNets nets = row(3, 1, 2);
        for (int set : SETS_OF_NO_TWO) {
            illegalArgument("set " + set, () -> nets.pipes(set));
        }
        due("both", 2, () -> nets.pipes(3));
        SprinkleNets none = new SprinkleNets(2, 2);
        illegalArgument("no places at all", () -> none.pipes(1));
        SprinkleNets full = twelveInARow();
        illegalArgument("bit 12 of twelve", () -> full.pipes(4096));
    }

    private static void upperOrSource() {
        SprinkleNets nets = row(5, 2, 4);
        due("the source", NONE, () -> nets.pipe(3, 0, 0));
        due("place 0", 0, () -> nets.pipe(3, 1, 0));
        due("without place 0 the source", NONE, () -> nets.pipe(2, 1, 0));
        due("and with it again", 0, () -> nets.pipe(3, 1, 0));
    }

    private static void firstAndLastJoined() {
        SprinkleNets nets = row(13, 12, 11, 10, 9, 8, 7, 6, 5, 4, 3, 2, 1);
        due("the first is 0", 0, () -> nets.pipe(4095, 11, 4));
        due("the last of twelve is 11", 11, () -> nets.pipe(4095, 0, 4));
        due("alone it is the first", 0, () -> nets.pipe(1, 0, 4));
    }

    private static void pipeNotInTheSet() {
        SprinkleNets nets = row(3, 1, 2);
        nets.size(1, 9);
        for (int what = 0; what <= 4; what++) {
            int asked = what;
            due("what " + what + " of the empty set", NONE, () -> nets.pipe(0, 0, asked));
            due("what " + what + " of the other one", NONE, () -> nets.pipe(1, 1, asked));
        }
        due("after the whole set", 1, () -> nets.pipe(3, 1, 4));
        due("nothing of it is left", NONE, () -> nets.pipe(1, 1, 4));
    }

    private static void pipeRefusedWhat() {
        SprinkleNets nets = row(3, 1, 2);
        due("the least", NONE, () -> nets.pipe(3, 0, 0));
        due("the greatest", 0, () -> nets.pipe(3, 0, 4));
        int[] no = {-1, 5, 32, 36, LEAST, GREATEST};
        for (int what : no) {
            illegalArgument("what " + what, () -> nets.pipe(3, 0, what));
            illegalArgument("what " + what + ", not in the set", () -> nets.pipe(1, 1, what));
            illegalArgument("what " + what + ", the empty set", () -> nets.pipe(0, 0, what));
        }
    }

    private static final int[] PLACES_OF_NO_TWO = {-1, 2, 11, 12, 31, 32, 33, -31, -32, LEAST, GREATEST};

    private static void pipeRefusedPlace() {
        SprinkleNets nets = row(3, 1, 2);
        for (int place : PLACES_OF_NO_TWO) {
            illegalArgument("place " + place, () -> nets.pipe(3, place, 0));
            illegalArgument("place " + place + ", the empty set", () -> nets.pipe(0, place, 4));
        }
        SprinkleNets none = new SprinkleNets(2, 2);
        illegalArgument("no places at all", () -> none.pipe(0, 0, 0));
        SprinkleNets full = twelveInARow();
        illegalArgument("place 12 of twelve", () -> full.pipe(4095, 12, 0));
    }

    private static void pipeRefusedSet() {
        SprinkleNets nets = row(3, 1, 2);
        for (int set : SETS_OF_NO_TWO) {
            illegalArgument("set " + set, () -> nets.pipe(set, 0, 0));
            illegalArgument("set " + set + " and what", () -> nets.pipe(set, 0, 5));
            illegalArgument("set " + set + " and place", () -> nets.pipe(set, 2, 0));
        }
    }

    private static void lacksNotInTheSet() {
        SprinkleNets nets = row(3, 1, 2);
        nets.size(1, 9);
        due("of the empty set", NONE, () -> nets.lacks(0, 0));
        due("of the other one", NONE, () -> nets.lacks(1, 1));
        due("in the set", 18 + 9, () -> nets.lacks(3, 1));
        due("nothing of it is left", NONE, () -> nets.lacks(1, 1));
        SprinkleNets still = row(3, 1, 2);
        due("nothing lost is 0", 0, () -> still.lacks(3, 1));
        due("not in it is NONE, without sizes too", NONE, () -> still.lacks(1, 1));
    }

    private static void lacksRefused() {
        SprinkleNets nets = row(3, 1, 2);
        for (int place : PLACES_OF_NO_TWO) {
            illegalArgument("place " + place, () -> nets.lacks(3, place));
            illegalArgument("place " + place + ", the empty set", () -> nets.lacks(0, place));
        }
        for (int set : SETS_OF_NO_TWO) {
            illegalArgument("set " + set, () -> nets.lacks(set, 0));
            illegalArgument("set " + set + " and place", () -> nets.lacks(set, 2));
        }
        SprinkleNets none = new SprinkleNets(2, 2);
        illegalArgument("no places at all", () -> none.lacks(0, 0));
        SprinkleNets full = twelveInARow();
        illegalArgument("place 12 of twelve", () -> full.lacks(4095, 12));
    }

    private static void worstOfNone() {
        SprinkleNets nets = new SprinkleNets(2, 2);
        due("no places", NONE, () -> nets.worst(0));
        nets.place(1, 1);
        nets.size(1, 9);
        due("the place", 0, () -> nets.worst(1));
        due("the empty set", NONE, () -> nets.worst(0));
    }

    private static void worstTies() {
        SprinkleNets nets = new SprinkleNets(4, 4);
        nets.place(1, 1);
        nets.place(0, 2);
        nets.place(2, 0);
        due("without sizes all lack 0", 0, () -> nets.worst(7));
        due("the least of the set", 1, () -> nets.worst(6));
        nets.size(12, 5);
        due("each lacks 10", 0, () -> nets.worst(7));
        due("the least of the set", 1, () -> nets.worst(6));
        due("alone", 2, () -> nets.worst(4));
        nets.size(12, 0);
        due("a loss of 0", 1, () -> nets.worst(6));
    }

    private static void worstIsTheLast() {
        SprinkleNets nets = row(13, 1, 2, 3, 4, 5, 6, 7, 8, 9, 10, 11, 12);
        nets.size(1, 1);
        due("place 11, at the end of the chain", 11, () -> nets.worst(4095));
        due("only those in the set", 10, () -> nets.worst(2047));
        SprinkleNets turned = row(13, 12, 11, 10, 9, 8, 7, 6, 5, 4, 3, 2, 1);
        turned.size(1, 1);
        due("place 0, at the end of the chain", 0, () -> turned.worst(4095));
    }

    private static void worstRefused() {
        SprinkleNets nets = row(3, 1, 2);
        for (int set : SETS_OF_NO_TWO) {
            illegalArgument("set " + set, () -> nets.worst(set));
        }
        SprinkleNets none = new SprinkleNets(2, 2);
        illegalArgument("no places at all", () -> none.worst(1));
        SprinkleNets full = twelveInARow();
        illegalArgument("bit 12 of twelve", () -> full.worst(4096));
    }
}
