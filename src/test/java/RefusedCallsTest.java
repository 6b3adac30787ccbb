import java.util.ArrayList;
import java.util.List;

/**
 * "In all calls illegal argument: a number is out of its bounds, there is no
 * such cell, place. Illegal state: as told. Of several exceptions the one named
 * first is thrown; a call that throws changes nothing."
 *
 * Every call is made with every mix of numbers in, at and past their bounds, on
 * objects that are new, in use, and full. It must throw what is due, or not at
 * all; and an object that has refused calls must answer all questions like its
 * twin that never heard them.
 */
public final class RefusedCallsTest {
    private static final int LEAST = Integer.MIN_VALUE;
    private static final int GREATEST = Integer.MAX_VALUE;
    private static final int[] CELLS = {LEAST, -16, -1, 0, 1, 2, 3, 12, 13, 15, 16, 1 << 28, GREATEST};
    private static final int[] FEW_CELLS = {LEAST, -1, 0, 1, 2, 3, 13, 1 << 28};
    private static final int[] REACHES = {LEAST, -400, -1, 0, 1, 2, 16, 399, 400, 401, 65537, GREATEST};
    private static final int[] PLACES = {LEAST, -32, -1, 0, 1, 2, 3, 10, 11, 12, 31, 32, 33, GREATEST};
    private static final int[] SETS = {LEAST, LEAST + 1, -8, -1, 0, 1, 2, 5, 7, 8, 9, 2048, 4095, 4096, 4097, 1 << 30, GREATEST};
    private static final int[] COUNTS = {LEAST, -1, 0, 1, 12, 13, 255, 256, GREATEST};
    private static final int[] HEADS = {LEAST, -1, 0, 1, 2, 11, 12, 13, GREATEST};
    private static final int[] LOSSES = {LEAST, -1, 0, 1, 999, 1000, 1001, GREATEST};
    private static final int[] WHATS = {LEAST, -1, 0, 1, 2, 3, 4, 5, 32, GREATEST};
    // An object may be used for 512 calls, and the questions behind need most.
    private static final int REFUSED_AT_ONCE = 40;

    private static int wrong = 0;
    private static int refused = 0;
    private static int taken = 0;

    private interface Call {
        Object on(SprinkleNets nets);
    }

    /** What the test itself knows of a kind of object, apart from the program. */
    private abstract static class Kind {
        final String name;
        final int w;
        final int h;
        final int places;
        final List<String> texts = new ArrayList<>();
        final List<Call> calls = new ArrayList<>();

        Kind(String name, int w, int h, int places) {
            this.name = name;
            this.w = w;
            this.h = h;
            this.places = places;
        }

        abstract SprinkleNets make();

        /** Whether place() may not be told for this cell of the plan. */
        abstract boolean barred(int x, int y);

        boolean cell(int x, int y) {
            return x >= 0 && x < w && y >= 0 && y < h;
        }

        boolean place(int place) {
            return place >= 0 && place < places;
        }

        boolean set(int set) {
            return set >= 0 && set < 1 << places;
        }
    }

    private static final class NewOne extends Kind {
        NewOne() {
            super("a new object", 3, 2, 0);
        }

        @Override
        SprinkleNets make() {
            return new SprinkleNets(3, 2);
        }

        @Override
        boolean barred(int x, int y) {
            return false;
        }
    }

    private static final class InUse extends Kind {
        private final boolean asked;

        InUse(boolean asked) {
            super(asked ? "an object in use, asked before" : "an object in use", 4, 3, 3);
            this.asked = asked;
        }

        @Override
        SprinkleNets make() {
            SprinkleNets nets = new SprinkleNets(4, 3);
            nets.place(2, 1);
            nets.place(0, 0);
            nets.place(3, 2);
            nets.wall(1, 1, true);
            nets.wall(3, 2, true);
            nets.reach(4);
            nets.size(2, 30);
            nets.size(1, 50);
            if (asked) {
                nets.best();
                nets.worst(7);
            }
            return nets;
        }

        @Override
        boolean barred(int x, int y) {
            boolean place = x == 2 && y == 1 || x == 0 && y == 0 || x == 3 && y == 2;
            return place || x == 1 && y == 1;
        }
    }

    private static final class Full extends Kind {
        Full() {
            super("a full object", 13, 1, 12);
        }

        @Override
        SprinkleNets make() {
            SprinkleNets nets = new SprinkleNets(13, 1);
            for (int x = 11; x >= 0; x--) {
                nets.place(x, 0);
            }
            nets.reach(400);
            for (int heads = 1; heads <= 12; heads++) {
                nets.size(heads, 1000 - heads);
            }
            return nets;
        }

        @Override
        boolean barred(int x, int y) {
            return true;
        }
    }

    private static Object answerOf(SprinkleNets nets, Call call) {
        try {
            return call.on(nets);
        } catch (RuntimeException e) {
            return e.getClass().getSimpleName();
        }
    }

    private static void say(Kind kind, String text) {
        wrong++;
        System.out.println(kind.name + ": " + text);
    }

    private static void argument(Kind kind, boolean good, String text, Call call) {
        check(kind, good ? "" : "IllegalArgumentException", text, call);
    }

    private static void check(Kind kind, String want, String text, Call call) {
        Object got = answerOf(kind.make(), call);
        boolean threw = got instanceof String;
        if (want.isEmpty() ? threw : !want.equals(got)) {
            say(kind, text + " answered " + got + ", due is " + (want.isEmpty() ? "no exception" : want));
        }
        if (want.isEmpty()) {
            taken++;
        } else {
            refused++;
            kind.texts.add(text);
            kind.calls.add(call);
        }
    }

    // ---- all questions

    private static String answers(SprinkleNets nets, Kind kind) {
        StringBuilder all = new StringBuilder();
        for (int y = 0; y < kind.h; y++) {
            for (int x = 0; x < kind.w; x++) {
                all.append(nets.seen(x, y, x, y) ? " free" : " wall");
            }
        }
        for (int place = 0; place < kind.places; place++) {
            all.append(" reached ").append(nets.reached(place));
        }
        int every = (1 << kind.places) - 1;
        int[] sets = {0, every & 1, every & 2, every & 5, every};
        for (int set : sets) {
            all.append(" left ").append(nets.left(set)).append(" pipes ").append(nets.pipes(set));
            all.append(" dry ").append(nets.dry(set, 0)).append(' ').append(nets.dry(set, 1));
            all.append(" worst ").append(nets.worst(set));
        }
        all.append(" best ").append(nets.best());
        for (int place = 0; place < kind.places; place++) {
            for (int what = 0; what <= 4; what++) {
                all.append(" pipe ").append(nets.pipe(every, place, what));
            }
            all.append(" lacks ").append(nets.lacks(every, place));
        }
        return all.append(lastAnswers(nets, kind)).toString();
    }

    /** What only a change tells: it is asked last. */
    private static String lastAnswers(SprinkleNets nets, Kind kind) {
        StringBuilder all = new StringBuilder();
        all.append(" reach ").append(nets.reach(7));
        for (int heads = 1; heads <= 12; heads++) {
            all.append(" sizes ").append(nets.size(heads, 1));
        }
        for (int y = 0; y < kind.h; y++) {
            for (int x = 0; x < kind.w; x++) {
                int cellX = x;
                int cellY = y;
                all.append(" place ").append(answerOf(nets, n -> n.place(cellX, cellY)));
                all.append(" wall ").append(nets.wall(x, y, true));
            }
        }
        return all.toString();
    }

    private static void refusedChangeNothing(Kind kind) {
        String want = answers(kind.make(), kind);
        for (int from = 0; from < kind.calls.size(); from += REFUSED_AT_ONCE) {
            int to = Math.min(from + REFUSED_AT_ONCE, kind.calls.size());
            SprinkleNets nets = kind.make();
            for (int i = from; i < to; i++) {
                answerOf(nets, kind.calls.get(i));
            }
            String got = answers(nets, kind);
            if (!want.equals(got)) {
                say(kind, "after " + kind.texts.subList(from, to) + " the answers are\n" + got + "\ndue are\n" + want);
            }
        }
    }

    // ---- all calls

    private static void cellCalls(Kind k) {
        for (int x : CELLS) {
            for (int y : CELLS) {
                String at = "(" + x + ", " + y + ")";
                argument(k, k.cell(x, y), "wall on " + at, n -> n.wall(x, y, true));
                argument(k, k.cell(x, y), "wall off " + at, n -> n.wall(x, y, false));
                String state = k.barred(x, y) ? "IllegalStateException" : "";
                check(k, k.cell(x, y) ? state : "IllegalArgumentException", "place" + at, n -> n.place(x, y));
            }
        }
    }

    private static void seenCalls(Kind k) {
        for (int x : FEW_CELLS) {
            for (int y : FEW_CELLS) {
                for (int u : FEW_CELLS) {
                    for (int v : FEW_CELLS) {
                        String text = "seen(" + x + ", " + y + ", " + u + ", " + v + ")";
                        argument(k, k.cell(x, y) && k.cell(u, v), text, n -> n.seen(x, y, u, v));
                    }
                }
            }
        }
    }

    private static void numberCalls(Kind k) {
        for (int square : REACHES) {
            argument(k, square >= 1 && square <= 400, "reach " + square, n -> n.reach(square));
        }
        for (int heads : HEADS) {
            for (int loss : LOSSES) {
                boolean good = heads >= 1 && heads <= 12 && loss >= 0 && loss <= 1000;
                argument(k, good, "size(" + heads + ", " + loss + ")", n -> n.size(heads, loss));
            }
        }
        for (int place : PLACES) {
            argument(k, k.place(place), "reached " + place, n -> n.reached(place));
        }
        check(k, "", "best()", n -> n.best());
    }

    private static void setCalls(Kind k) {
        for (int set : SETS) {
            argument(k, k.set(set), "left " + set, n -> n.left(set));
            argument(k, k.set(set), "pipes " + set, n -> n.pipes(set));
            argument(k, k.set(set), "worst " + set, n -> n.worst(set));
            for (int count : COUNTS) {
                argument(k, k.set(set) && count >= 0, "dry(" + set + ", " + count + ")", n -> n.dry(set, count));
            }
            for (int place : PLACES) {
                boolean good = k.set(set) && k.place(place);
                argument(k, good, "lacks(" + set + ", " + place + ")", n -> n.lacks(set, place));
                for (int what : WHATS) {
                    String text = "pipe(" + set + ", " + place + ", " + what + ")";
                    argument(k, good && what >= 0 && what <= 4, text, n -> n.pipe(set, place, what));
                }
            }
        }
    }

    public static void main(String[] args) {
        Kind[] kinds = {new NewOne(), new InUse(false), new InUse(true), new Full()};
        for (Kind kind : kinds) {
            cellCalls(kind);
            seenCalls(kind);
            numberCalls(kind);
            setCalls(kind);
            refusedChangeNothing(kind);
        }
        System.out.println(refused + " calls refused, " + taken + " taken, " + wrong + " not as due");
        if (wrong != 0) {
            System.exit(1);
        }
    }
}
