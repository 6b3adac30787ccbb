/**
 * The promises one by one, with answers worked out by hand from the document:
 * ordinary inputs, the edges that it names, and wrong inputs.
 */
public final class PromisesTest {
    private static final int NONE = SprinkleNets.NONE;
    private static int wrong = 0;

    private interface Call {
        Object answer();
    }

    private static void due(String what, Object want, Call call) {
        Object got;
        try {
            got = call.answer();
        } catch (RuntimeException e) {
            got = e.getClass().getSimpleName();
        }
        if (!want.equals(got)) {
            wrong++;
            System.out.println(what + " answered " + got + ", due is " + want);
        }
    }

    private static void illegalArgument(String what, Call call) {
        due(what, "IllegalArgumentException", call);
    }

    private static void illegalState(String what, Call call) {
        due(what, "IllegalStateException", call);
    }

    public static void main(String[] args) {
        promise1NewObject();
        promise2Wall();
        promise3Reach();
        promise4Place();
        promise4TwelvePlaces();
        promise5Seen();
        promise5SeenCorners();
        promise5SeenWrong();
        promise6Reached();
        promise7Left();
        promise8Dry();
        promise9Best();
        promise9BestEdges();
        promise9BestIsLeast();
        promise10Size();
        promise10SizesInUse();
        promise11Pipes();
        promise12Pipe();
        promise12PipeTies();
        promise12PipeWrong();
        promise13Lacks();
        promise14Worst();
        throwingChangesNothing();
        System.out.println(wrong == 0 ? "all promises hold" : wrong + " answers are not as due");
        if (wrong != 0) {
            System.exit(1);
        }
    }

    private static void newPlan(int w, int h, int realW, int realH) {
        String plan = "plan " + w + " by " + h + ": ";
        SprinkleNets nets = new SprinkleNets(w, h);
        due(plan + "left(0)", realW * realH, () -> nets.left(0));
        due(plan + "last cell was a wall", false, () -> nets.wall(realW - 1, realH - 1, false));
        illegalArgument(plan + "x past the last", () -> nets.wall(realW, 0, true));
        illegalArgument(plan + "y past the last", () -> nets.wall(0, realH, true));
        due(plan + "last dry", 100 * (realH - 1) + realW - 1, () -> nets.dry(0, realW * realH - 1));
        due(plan + "past the last dry", NONE, () -> nets.dry(0, realW * realH));
    }

    private static void promise1NewObject() {
        due("NONE", -1, () -> SprinkleNets.NONE);
        newPlan(8, 6, 8, 6);
        newPlan(1, 1, 1, 1);
        newPlan(0, 5, 1, 5);
        newPlan(5, 0, 5, 1);
        newPlan(-7, Integer.MIN_VALUE, 1, 1);
        newPlan(16, 16, 16, 16);
        newPlan(17, 3, 16, 3);
        newPlan(3, 17, 3, 16);
        newPlan(Integer.MAX_VALUE, Integer.MAX_VALUE, 16, 16);
        SprinkleNets nets = new SprinkleNets(4, 4);
        for (int cell = 0; cell < 16; cell++) {
            int at = cell;
            due("new cell " + cell + " is free", true, () -> nets.seen(at % 4, at / 4, at % 4, at / 4));
        }
        illegalArgument("a new object has no place 0", () -> nets.reached(0));
        due("a new object has no size", 1, () -> nets.size(4, 4));
    }

    private static void promise2Wall() {
        SprinkleNets nets = new SprinkleNets(3, 2);
        due("wall of a free cell", false, () -> nets.wall(2, 1, true));
        due("wall of a wall", true, () -> nets.wall(2, 1, true));
        due("one free cell less", 5, () -> nets.left(0));
        due("free a wall", true, () -> nets.wall(2, 1, false));
        due("free a free cell", false, () -> nets.wall(2, 1, false));
        due("all free again", 6, () -> nets.left(0));
        due("the other cell with x and y turned is free", false, () -> nets.wall(1, 1, false));
        illegalArgument("wall x -1", () -> nets.wall(-1, 0, true));
        illegalArgument("wall y -1", () -> nets.wall(0, -1, true));
        illegalArgument("wall x 3", () -> nets.wall(3, 0, true));
        illegalArgument("wall y 2", () -> nets.wall(0, 2, true));
        illegalArgument("wall least x", () -> nets.wall(Integer.MIN_VALUE, 0, true));
        illegalArgument("wall greatest y", () -> nets.wall(0, Integer.MAX_VALUE, false));
    }

    private static void promise3Reach() {
        SprinkleNets nets = new SprinkleNets(16, 16);
        nets.place(0, 0);
        due("reach at first", 16, () -> nets.reach(1));
        due("reach 1 reaches", 3, () -> nets.reached(0));
        due("reach was 1", 1, () -> nets.reach(2));
        due("reach 2 reaches", 4, () -> nets.reached(0));
        due("reach was 2", 2, () -> nets.reach(400));
        illegalArgument("reach 0", () -> nets.reach(0));
        illegalArgument("reach 401", () -> nets.reach(401));
        illegalArgument("reach -1", () -> nets.reach(-1));
        illegalArgument("least reach", () -> nets.reach(Integer.MIN_VALUE));
        illegalArgument("greatest reach", () -> nets.reach(Integer.MAX_VALUE));
        due("reach was 400", 400, () -> nets.reach(16));
    }

    private static void promise4Place() {
        SprinkleNets nets = new SprinkleNets(4, 3);
        due("first place", 0, () -> nets.place(3, 2));
        due("second place", 1, () -> nets.place(0, 0));
        illegalState("a place already", () -> nets.place(3, 2));
        nets.wall(1, 1, true);
        illegalState("a wall", () -> nets.place(1, 1));
        nets.wall(1, 1, false);
        due("no wall any more", 2, () -> nets.place(1, 1));
        nets.wall(1, 1, true);
        illegalState("a place that is a wall now", () -> nets.place(1, 1));
        nets.wall(1, 1, false);
        illegalState("a place that was a wall", () -> nets.place(1, 1));
        illegalArgument("place x -1", () -> nets.place(-1, 0));
        illegalArgument("place y -1", () -> nets.place(0, -1));
        illegalArgument("place x 4", () -> nets.place(4, 0));
        illegalArgument("place y 3", () -> nets.place(0, 3));
        due("x and y are not turned", 3, () -> nets.place(2, 1));
        due("nor here", 4, () -> nets.place(1, 2));
    }

    private static void promise4TwelvePlaces() {
        SprinkleNets nets = new SprinkleNets(13, 1);
        for (int x = 0; x < 12; x++) {
            int at = x;
            due("place " + x, at, () -> nets.place(at, 0));
        }
        illegalState("a thirteenth place", () -> nets.place(12, 0));
        illegalArgument("argument goes before state", () -> nets.place(13, 0));
        illegalArgument("there is no place 12", () -> nets.reached(12));
        due("place 11 stands", 6, () -> nets.reached(11));
        due("all bits are places", 0, () -> nets.left(4095));
        illegalArgument("bit 12 is no place", () -> nets.left(4096));
    }

    private static void bothWays(SprinkleNets nets, boolean want, int x, int y, int u, int v) {
        String what = "seen(" + x + ", " + y + ", " + u + ", " + v + ")";
        due(what, want, () -> nets.seen(x, y, u, v));
        due(what + " turned", want, () -> nets.seen(u, v, x, y));
    }

    private static void promise5Seen() {
        SprinkleNets nets = new SprinkleNets(16, 16);
        bothWays(nets, true, 0, 0, 15, 15);
        bothWays(nets, true, 0, 15, 15, 0);
        nets.reach(1);
        bothWays(nets, true, 0, 0, 15, 7);
        nets.wall(5, 5, true);
        bothWays(nets, false, 5, 5, 5, 5);
        bothWays(nets, true, 4, 5, 4, 5);
        bothWays(nets, false, 5, 5, 5, 4);
        bothWays(nets, false, 4, 5, 6, 5);
        bothWays(nets, false, 5, 0, 5, 15);
        bothWays(nets, true, 4, 0, 4, 15);
        bothWays(nets, true, 0, 6, 15, 6);
        bothWays(nets, true, 6, 5, 15, 5);
        bothWays(nets, true, 5, 6, 5, 7);
        bothWays(nets, false, 4, 4, 6, 6);
        bothWays(nets, false, 4, 6, 6, 4);
        // (3, 4) to (7, 6): at x from 10 to 12 the line goes from y 10.5 to 11.5.
        bothWays(nets, false, 3, 4, 7, 6);
        // (4, 4) to (7, 5): at x from 10 to 12 the line goes from y 9.33 to 10.
        bothWays(nets, true, 4, 4, 7, 5);
        // (4, 4) to (6, 5): at x from 10 to 12 the line goes from y 9.5 to 10.5.
        bothWays(nets, false, 4, 4, 6, 5);
    }

    private static void promise5SeenCorners() {
        SprinkleNets nets = new SprinkleNets(8, 8);
        nets.wall(2, 1, true);
        nets.wall(1, 2, true);
        // Between two walls that meet in a corner: only the corner is touched.
        bothWays(nets, true, 1, 1, 2, 2);
        bothWays(nets, true, 0, 0, 7, 7);
        bothWays(nets, false, 0, 1, 1, 3);
        SprinkleNets steps = new SprinkleNets(8, 8);
        // (0, 0) to (3, 1) leaves (1, 0) for (2, 1) through the corner (4, 2).
        steps.wall(2, 0, true);
        steps.wall(1, 1, true);
        bothWays(steps, true, 0, 0, 3, 1);
        bothWays(steps, true, 0, 0, 0, 7);
        steps.wall(2, 1, true);
        bothWays(steps, false, 0, 0, 3, 1);
        // The line ends in the middle: what lies behind the end is no matter.
        bothWays(steps, true, 0, 2, 7, 2);
        bothWays(steps, true, 3, 1, 7, 1);
    }

    private static void promise5SeenWrong() {
        SprinkleNets nets = new SprinkleNets(4, 3);
        illegalArgument("seen x -1", () -> nets.seen(-1, 0, 0, 0));
        illegalArgument("seen y -1", () -> nets.seen(0, -1, 0, 0));
        illegalArgument("seen u -1", () -> nets.seen(0, 0, -1, 0));
        illegalArgument("seen v -1", () -> nets.seen(0, 0, 0, -1));
        illegalArgument("seen x 4", () -> nets.seen(4, 0, 0, 0));
        illegalArgument("seen y 3", () -> nets.seen(0, 3, 0, 0));
        illegalArgument("seen u 4", () -> nets.seen(0, 0, 4, 0));
        illegalArgument("seen v 3", () -> nets.seen(0, 0, 0, 3));
        nets.wall(0, 0, true);
        illegalArgument("a wall is no way round", () -> nets.seen(0, 0, 4, 0));
        illegalArgument("seen greatest", () -> nets.seen(0, 0, Integer.MAX_VALUE, Integer.MIN_VALUE));
    }

    private static void promise6Reached() {
        SprinkleNets nets = new SprinkleNets(16, 16);
        nets.place(8, 8);
        due("reach 16, all free", 49, () -> nets.reached(0));
        nets.reach(15);
        due("reach 15 leaves the four tips", 45, () -> nets.reached(0));
        nets.reach(1);
        due("reach 1", 5, () -> nets.reached(0));
        nets.wall(8, 7, true);
        due("a wall beside", 4, () -> nets.reached(0));
        nets.reach(4);
        due("a wall hides the cell behind", 11, () -> nets.reached(0));
        nets.wall(8, 8, true);
        due("its own cell is a wall", 0, () -> nets.reached(0));
        nets.wall(8, 8, false);
        due("and free again", 11, () -> nets.reached(0));
        nets.place(0, 0);
        due("a second place", 6, () -> nets.reached(1));
        nets.reach(400);
        nets.wall(8, 7, false);
        // From (0, 0) only those with x * x + y * y of over 400 are too far.
        due("reach 400 from a corner", 253, () -> nets.reached(1));
        illegalArgument("reached -1", () -> nets.reached(-1));
        illegalArgument("reached 2", () -> nets.reached(2));
        illegalArgument("reached greatest", () -> nets.reached(Integer.MAX_VALUE));
        illegalArgument("reached least", () -> nets.reached(Integer.MIN_VALUE));
    }

    private static SprinkleNets rowOfThree() {
        SprinkleNets nets = new SprinkleNets(7, 1);
        nets.reach(1);
        nets.place(1, 0);
        nets.place(3, 0);
        nets.place(5, 0);
        return nets;
    }

    private static void promise7Left() {
        SprinkleNets nets = rowOfThree();
        due("left(0)", 7, () -> nets.left(0));
        due("left(1)", 4, () -> nets.left(1));
        due("left(3)", 2, () -> nets.left(3));
        due("left(5)", 1, () -> nets.left(5));
        due("left(7)", 0, () -> nets.left(7));
        nets.wall(3, 0, true);
        due("a wall needs no water", 0, () -> nets.left(5));
        due("a place in a wall gives none", 6, () -> nets.left(2));
        nets.wall(1, 0, true);
        due("nor here", 2, () -> nets.left(7));
        illegalArgument("left(8)", () -> nets.left(8));
        illegalArgument("left(9)", () -> nets.left(9));
        illegalArgument("left(-1)", () -> nets.left(-1));
        illegalArgument("left(least)", () -> nets.left(Integer.MIN_VALUE));
        illegalArgument("left(greatest)", () -> nets.left(Integer.MAX_VALUE));
        SprinkleNets none = new SprinkleNets(2, 2);
        due("left of no places", 4, () -> none.left(0));
        illegalArgument("a bit without places", () -> none.left(1));
    }

    private static void promise8Dry() {
        SprinkleNets nets = new SprinkleNets(3, 3);
        nets.place(1, 1);
        nets.reach(1);
        due("dry(1, 0)", 0, () -> nets.dry(1, 0));
        due("dry(1, 1)", 2, () -> nets.dry(1, 1));
        due("dry(1, 2)", 200, () -> nets.dry(1, 2));
        due("dry(1, 3)", 202, () -> nets.dry(1, 3));
        due("dry(1, 4)", NONE, () -> nets.dry(1, 4));
        due("dry(1, greatest)", NONE, () -> nets.dry(1, Integer.MAX_VALUE));
        due("dry(0, 5): by y, then x", 102, () -> nets.dry(0, 5));
        nets.wall(2, 0, true);
        due("a wall is not dry", 200, () -> nets.dry(1, 1));
        nets.wall(1, 1, true);
        due("the head is walled in", 1, () -> nets.dry(1, 1));
        illegalArgument("k -1", () -> nets.dry(1, -1));
        illegalArgument("least k", () -> nets.dry(0, Integer.MIN_VALUE));
        illegalArgument("dry(2, 0)", () -> nets.dry(2, 0));
        illegalArgument("dry(-1, 0)", () -> nets.dry(-1, 0));
    }

    private static void promise9Best() {
        SprinkleNets nets = rowOfThree();
        due("all three are needed", 7, () -> nets.best());
        nets.reach(4);
        // Place 1 reaches 1 .. 5, place 0 reaches 0 .. 3, place 2 reaches 3 .. 6.
        due("two of three", 5, () -> nets.best());
        nets.reach(9);
        due("the one in the middle", 2, () -> nets.best());
        nets.reach(1);
        nets.wall(3, 0, true);
        due("the wall's place is of no use", 5, () -> nets.best());
        nets.wall(5, 0, true);
        due("cells 4 and 6 are out of reach", NONE, () -> nets.best());
        nets.wall(4, 0, true);
        nets.wall(6, 0, true);
        due("and walls now", 1, () -> nets.best());
    }

    private static void promise9BestEdges() {
        SprinkleNets nets = new SprinkleNets(2, 1);
        due("no places", NONE, () -> nets.best());
        nets.wall(0, 0, true);
        nets.wall(1, 0, true);
        due("no free cell: the empty set", 0, () -> nets.best());
        nets.wall(1, 0, false);
        nets.place(1, 0);
        due("one free cell", 1, () -> nets.best());
        nets.wall(1, 0, true);
        due("none again", 0, () -> nets.best());
    }

    private static void promise9BestIsLeast() {
        SprinkleNets nets = new SprinkleNets(4, 1);
        nets.reach(1);
        nets.place(0, 0);
        nets.place(1, 0);
        nets.place(2, 0);
        nets.place(3, 0);
        // {1, 2} = 6 and {0, 3} = 9, {0, 2} = 5 misses none: 0, 1 and 1, 2, 3.
        due("of several the least number", 5, () -> nets.best());
        SprinkleNets few = new SprinkleNets(5, 1);
        few.reach(1);
        few.place(0, 0);
        few.place(2, 0);
        few.place(4, 0);
        few.reach(4);
        // {0, 1} = 3 would do with two, but place 1 alone does: 0 .. 4.
        due("fewest go before least", 2, () -> few.best());
        SprinkleNets twelve = new SprinkleNets(12, 1);
        twelve.reach(1);
        for (int x = 0; x < 12; x++) {
            twelve.place(x, 0);
        }
        // Four heads reach three each: 1, 4, 7, 10 alone.
        due("four of twelve", 2 + 16 + 128 + 1024, () -> twelve.best());
    }

    private static void promise10Size() {
        SprinkleNets nets = new SprinkleNets(3, 3);
        due("first size", 1, () -> nets.size(12, 0));
        due("second size", 2, () -> nets.size(1, 1000));
        due("in the place of one", 2, () -> nets.size(12, 1000));
        due("the same once more", 2, () -> nets.size(1, 1000));
        due("third size", 3, () -> nets.size(2, 5));
        due("loss 0 in the place of one", 3, () -> nets.size(2, 0));
        due("and back", 3, () -> nets.size(2, 5));
        illegalArgument("size(0, 1)", () -> nets.size(0, 1));
        illegalArgument("size(13, 1)", () -> nets.size(13, 1));
        illegalArgument("size(-1, 1)", () -> nets.size(-1, 1));
        illegalArgument("size(3, -1)", () -> nets.size(3, -1));
        illegalArgument("size(3, 1001)", () -> nets.size(3, 1001));
        illegalArgument("size(least, greatest)", () -> nets.size(Integer.MIN_VALUE, Integer.MAX_VALUE));
        due("wrong ones are not counted", 4, () -> nets.size(3, 1));
        for (int heads = 1; heads <= 12; heads++) {
            nets.size(heads, heads);
        }
        due("all twelve", 12, () -> nets.size(7, 7));
    }

    private static void promise10SizesInUse() {
        SprinkleNets nets = new SprinkleNets(16, 1);
        for (int x = 1; x <= 5; x++) {
            nets.place(x, 0);
        }
        due("no sizes: no loss", 0, () -> nets.pipe(31, 0, 3));
        nets.size(4, 40);
        due("4 is enough for 1", 40, () -> nets.pipe(31, 4, 3));
        due("the greatest is for 5 too", 40, () -> nets.pipe(31, 0, 3));
        nets.size(2, 90);
        due("2 is the least for 1", 90, () -> nets.pipe(31, 4, 3));
        due("2 is enough for 2", 90, () -> nets.pipe(31, 3, 3));
        due("2 is not enough for 3", 40, () -> nets.pipe(31, 2, 3));
        due("4 is enough for 4", 40, () -> nets.pipe(31, 1, 3));
        due("the greatest, not the last told", 40, () -> nets.pipe(31, 0, 3));
        nets.size(4, 0);
        due("a loss of 0 is a size", 0, () -> nets.pipe(31, 0, 3));
        due("and only for its own", 90, () -> nets.pipe(31, 3, 3));
        nets.size(12, 7);
        due("12 is the least for 5", 7, () -> nets.pipe(31, 0, 3));
        due("but not for 4", 0, () -> nets.pipe(31, 1, 3));
    }

    private static SprinkleNets tree() {
        SprinkleNets nets = new SprinkleNets(16, 16);
        nets.place(4, 0);
        nets.place(4, 3);
        nets.place(7, 0);
        nets.place(0, 5);
        nets.place(7, 1);
        return nets;
    }

    private static void promise11Pipes() {
        SprinkleNets nets = tree();
        due("the empty set", 0, () -> nets.pipes(0));
        due("one place", 7, () -> nets.pipes(2));
        due("two places", 7, () -> nets.pipes(3));
        due("two far ones", 5 + 6, () -> nets.pipes(10));
        due("all five", 4 + 3 + 3 + 1 + 5, () -> nets.pipes(31));
        nets.wall(4, 0, true);
        nets.wall(0, 0, true);
        due("walls are no matter to pipes", 16, () -> nets.pipes(31));
        illegalArgument("pipes(32)", () -> nets.pipes(32));
        illegalArgument("pipes(-1)", () -> nets.pipes(-1));
        illegalArgument("pipes(least)", () -> nets.pipes(Integer.MIN_VALUE));
        SprinkleNets source = new SprinkleNets(2, 2);
        source.place(0, 0);
        due("a place at the source", 0, () -> source.pipes(1));
        illegalArgument("no such place", () -> source.pipes(2));
    }

    private static void pipeDue(SprinkleNets nets, int set, int place, int... want) {
        for (int what = 0; what < want.length; what++) {
            int asked = what;
            due("pipe(" + set + ", " + place + ", " + what + ")", want[what], () -> nets.pipe(set, place, asked));
        }
    }

    private static void promise12Pipe() {
        SprinkleNets nets = tree();
        nets.size(1, 10);
        nets.size(3, 5);
        // Joined: 0 (4), 1 (3 from 0), 2 (3 from 0), 4 (1 from 2), 3 (5, the source).
        pipeDue(nets, 31, 0, NONE, 4, 4, 5, 0);
        pipeDue(nets, 31, 1, 0, 3, 1, 10, 1);
        pipeDue(nets, 31, 2, 0, 3, 2, 5, 2);
        pipeDue(nets, 31, 4, 2, 1, 1, 10, 3);
        pipeDue(nets, 31, 3, NONE, 5, 1, 10, 4);
        // Without 0: 3 (5), 1 (6 from 3), then 2 and 4 by way of 1: 4 is 5 away.
        pipeDue(nets, 30, 3, NONE, 5, 4, 5, 0);
        pipeDue(nets, 30, 1, 3, 6, 3, 5, 1);
        pipeDue(nets, 30, 4, 1, 5, 2, 5, 2);
        pipeDue(nets, 30, 2, 4, 1, 1, 10, 3);
        pipeDue(nets, 30, 0, NONE, NONE, NONE, NONE, NONE);
        pipeDue(nets, 0, 4, NONE, NONE, NONE, NONE, NONE);
        nets.wall(4, 0, true);
        pipeDue(nets, 31, 0, NONE, 4, 4, 5, 0);
    }

    private static void promise12PipeTies() {
        SprinkleNets nets = new SprinkleNets(8, 8);
        nets.place(0, 2);
        nets.place(2, 0);
        nets.place(2, 2);
        // All of length 2: 2 is as near to 0 as to 1, and 0 was joined first.
        pipeDue(nets, 7, 0, NONE, 2, 2, 0, 0);
        pipeDue(nets, 7, 1, NONE, 2, 1, 0, 1);
        pipeDue(nets, 7, 2, 0, 2, 1, 0, 2);
        SprinkleNets turned = new SprinkleNets(8, 8);
        turned.place(2, 2);
        turned.place(4, 0);
        turned.place(0, 3);
        // 2 is joined first (3); then 0 (3 from 2), of least number; 1 is as
        // near to the source as to 0.
        pipeDue(turned, 7, 2, NONE, 3, 2, 0, 0);
        pipeDue(turned, 7, 0, 2, 3, 1, 0, 1);
        pipeDue(turned, 7, 1, NONE, 4, 1, 0, 2);
        SprinkleNets late = new SprinkleNets(16, 1);
        late.place(9, 0);
        late.place(5, 0);
        late.place(13, 0);
        // The order of joining is not that of the numbers.
        pipeDue(late, 7, 1, NONE, 5, 3, 0, 0);
        pipeDue(late, 7, 0, 1, 4, 2, 0, 1);
        pipeDue(late, 7, 2, 0, 4, 1, 0, 2);
        SprinkleNets first = new SprinkleNets(16, 16);
        first.place(3, 3);
        first.place(5, 1);
        first.place(3, 1);
        // 2 (4), then 0 and 1 are both 2 from it; nothing is nearer to them.
        pipeDue(first, 7, 2, NONE, 4, 3, 0, 0);
        pipeDue(first, 7, 0, 2, 2, 1, 0, 1);
        pipeDue(first, 7, 1, 2, 2, 1, 0, 2);
    }

    private static void promise12PipeWrong() {
        SprinkleNets nets = tree();
        illegalArgument("what -1", () -> nets.pipe(31, 0, -1));
        illegalArgument("what 5", () -> nets.pipe(31, 0, 5));
        illegalArgument("what 5 of a place that is not in it", () -> nets.pipe(1, 2, 5));
        illegalArgument("place -1", () -> nets.pipe(31, -1, 0));
        illegalArgument("place 5", () -> nets.pipe(31, 5, 0));
        illegalArgument("place 32", () -> nets.pipe(31, 32, 0));
        illegalArgument("set 32", () -> nets.pipe(32, 0, 0));
        illegalArgument("set 33", () -> nets.pipe(33, 0, 0));
        illegalArgument("set -1", () -> nets.pipe(-1, 0, 0));
    }

    private static void promise13Lacks() {
        SprinkleNets nets = tree();
        due("no sizes", 0, () -> nets.lacks(31, 4));
        nets.size(1, 10);
        nets.size(3, 5);
        due("lacks of 0: 4 * 5 * 4", 80, () -> nets.lacks(31, 0));
        due("lacks of 1: and 3 * 10 * 1", 110, () -> nets.lacks(31, 1));
        due("lacks of 2: and 3 * 5 * 2", 110, () -> nets.lacks(31, 2));
        due("lacks of 4: and 1 * 10 * 1", 120, () -> nets.lacks(31, 4));
        due("lacks of 3: 5 * 10 * 1", 50, () -> nets.lacks(31, 3));
        due("of a set of one", 80, () -> nets.lacks(16, 4));
        due("not in the set", NONE, () -> nets.lacks(30, 0));
        due("not in the empty set", NONE, () -> nets.lacks(0, 0));
        nets.wall(4, 0, true);
        due("walls are no matter", 120, () -> nets.lacks(31, 4));
        illegalArgument("lacks place -1", () -> nets.lacks(31, -1));
        illegalArgument("lacks place 5", () -> nets.lacks(31, 5));
        illegalArgument("lacks set 32", () -> nets.lacks(32, 0));
        illegalArgument("lacks set -1", () -> nets.lacks(-1, 0));
        SprinkleNets far = new SprinkleNets(16, 16);
        for (int x = 0; x < 12; x++) {
            far.place(15 - x, 15);
        }
        far.size(1, 1000);
        // The first pipe is 4 + 15 long for 12 heads; then 11 of length 1.
        due("great losses", 19 * 12000 + 66000, () -> far.lacks(4095, 0));
    }

    private static void promise14Worst() {
        SprinkleNets nets = tree();
        due("the empty set", NONE, () -> nets.worst(0));
        due("none lacks anything: the least", 0, () -> nets.worst(31));
        due("the least of the set", 2, () -> nets.worst(28));
        nets.size(1, 10);
        nets.size(3, 5);
        due("the most", 4, () -> nets.worst(31));
        due("of several the least: 1 and 2 lack 90", 1, () -> nets.worst(7));
        due("only those of the set", 3, () -> nets.worst(8));
        illegalArgument("worst(32)", () -> nets.worst(32));
        illegalArgument("worst(-1)", () -> nets.worst(-1));
        illegalArgument("worst(least)", () -> nets.worst(Integer.MIN_VALUE));
        SprinkleNets none = new SprinkleNets(2, 2);
        due("no places", NONE, () -> none.worst(0));
        illegalArgument("a bit without places", () -> none.worst(1));
    }

    private static void throwingChangesNothing() {
        SprinkleNets nets = tree();
        nets.size(3, 5);
        nets.wall(9, 9, true);
        illegalArgument("reach 401", () -> nets.reach(401));
        illegalArgument("size(3, 1001)", () -> nets.size(3, 1001));
        illegalArgument("size(13, 9)", () -> nets.size(13, 9));
        illegalArgument("wall(16, 9)", () -> nets.wall(16, 9, true));
        illegalArgument("wall(-7, 10)", () -> nets.wall(-7, 10, false));
        illegalState("place(9, 9)", () -> nets.place(9, 9));
        illegalState("place(4, 3)", () -> nets.place(4, 3));
        illegalArgument("pipe(31, 0, 5)", () -> nets.pipe(31, 0, 5));
        due("loss stands", 5, () -> nets.pipe(31, 4, 3));
        due("free cells stand", 255, () -> nets.left(0));
        due("the wall stands", true, () -> nets.wall(9, 9, true));
        due("places stand", 5, () -> nets.place(9, 10));
        due("reach stands", 16, () -> nets.reach(16));
    }
}
