import java.util.ArrayList;
import java.util.List;

/**
 * Long runs of calls, the same ones in every run of this test, beside a slow
 * model that works straight from the document's words: the line is cut with
 * each wall's square, all sets are tried, each pipe is looked for anew.
 */
public final class PlainModelTest {
    private static final int RUNS = 200;
    private static final int CALLS = 512;

    private static long seed = 20261115L;

    private static int below(int bound) {
        seed = seed * 6364136223846793005L + 1442695040888963407L;
        return (int) ((seed >>> 33) % bound);
    }

    private static final class Model {
        final int w;
        final int h;
        final boolean[][] wall;
        int reach = 16;
        final List<int[]> places = new ArrayList<>();
        final Integer[] loss = new Integer[13];

        Model(int w, int h) {
            this.w = Math.max(1, Math.min(16, w));
            this.h = Math.max(1, Math.min(16, h));
            wall = new boolean[this.w][this.h];
        }

        boolean cell(int x, int y) {
            return x >= 0 && x < w && y >= 0 && y < h;
        }

        void need(boolean good) {
            if (!good) {
                throw new IllegalArgumentException();
            }
        }

        void needSet(int set) {
            for (int bit = 0; bit < 32; bit++) {
                need((set >>> bit & 1) == 0 || bit < places.size());
            }
        }

        boolean has(int set, int place) {
            return (set >>> place & 1) != 0;
        }

        boolean doWall(int x, int y, boolean on) {
            need(cell(x, y));
            boolean was = wall[x][y];
            wall[x][y] = on;
            return was;
        }

        int doReach(int square) {
            need(square >= 1 && square <= 400);
            int was = reach;
            reach = square;
            return was;
        }

        int doPlace(int x, int y) {
            need(cell(x, y));
            boolean taken = places.stream().anyMatch(p -> p[0] == x && p[1] == y);
            if (wall[x][y] || taken || places.size() == 12) {
                throw new IllegalStateException();
            }
            places.add(new int[] {x, y});
            return places.size() - 1;
        }

        /**
         * Cuts the line from t = 0 to t = 1 with the open square of cell
         * (a, b), in whole numbers: all times are held over the bottom
         * dx * dy (or what of it is not 0).
         */
        boolean cuts(int x, int y, int u, int v, int a, int b) {
            long dx = 2L * (u - x);
            long dy = 2L * (v - y);
            long bottom = (dx == 0 ? 1 : Math.abs(dx)) * (dy == 0 ? 1 : Math.abs(dy));
            long[] span = {0, bottom};
            boolean in = narrow(span, 2L * x + 1, dx, 2L * a, bottom) && narrow(span, 2L * y + 1, dy, 2L * b, bottom);
            return in && (dx == 0 && dy == 0 || span[0] < span[1]);
        }

        boolean narrow(long[] span, long from, long by, long side, long bottom) {
            if (by == 0) {
                return from > side && from < side + 2;
            }
            long one = (side - from) * (bottom / Math.abs(by)) * Long.signum(by);
            long two = (side + 2 - from) * (bottom / Math.abs(by)) * Long.signum(by);
            span[0] = Math.max(span[0], Math.min(one, two));
            span[1] = Math.min(span[1], Math.max(one, two));
            return true;
        }

        boolean sees(int x, int y, int u, int v) {
            if (wall[x][y] || wall[u][v]) {
                return false;
            }
            for (int a = 0; a < w; a++) {
                for (int b = 0; b < h; b++) {
                    if (wall[a][b] && cuts(x, y, u, v, a, b)) {
                        return false;
                    }
                }
            }
            return true;
        }

        boolean doSeen(int x, int y, int u, int v) {
            need(cell(x, y) && cell(u, v));
            return sees(x, y, u, v);
        }

        boolean reaches(int place, int u, int v) {
            int x = places.get(place)[0];
            int y = places.get(place)[1];
            return (x - u) * (x - u) + (y - v) * (y - v) <= reach && sees(x, y, u, v);
        }

        int doReached(int place) {
            need(place >= 0 && place < places.size());
            int count = 0;
            for (int u = 0; u < w; u++) {
                for (int v = 0; v < h; v++) {
                    count += reaches(place, u, v) ? 1 : 0;
                }
            }
            return count;
        }

        /** For each free cell, by y, then x: {100 y + x, bits of the places that reach it}. */
        List<int[]> needs() {
            List<int[]> needs = new ArrayList<>();
            for (int v = 0; v < h; v++) {
                for (int u = 0; u < w; u++) {
                    if (!wall[u][v]) {
                        int bits = 0;
                        for (int place = 0; place < places.size(); place++) {
                            bits |= reaches(place, u, v) ? 1 << place : 0;
                        }
                        needs.add(new int[] {100 * v + u, bits});
                    }
                }
            }
            return needs;
        }

        List<Integer> unreached(int set) {
            needSet(set);
            List<Integer> cells = new ArrayList<>();
            for (int[] need : needs()) {
                if ((need[1] & set) == 0) {
                    cells.add(need[0]);
                }
            }
            return cells;
        }

        int doDry(int set, int k) {
            List<Integer> cells = unreached(set);
            need(k >= 0);
            return k < cells.size() ? cells.get(k) : -1;
        }

        int doBest() {
            List<int[]> needs = needs();
            for (int count = 0; count <= places.size(); count++) {
                for (int set = 0; set < 1 << places.size(); set++) {
                    int tried = set;
                    if (Integer.bitCount(set) == count && needs.stream().allMatch(n -> (n[1] & tried) != 0)) {
                        return set;
                    }
                }
            }
            return -1;
        }

        int doSize(int heads, int l) {
            need(heads >= 1 && heads <= 12 && l >= 0 && l <= 1000);
            loss[heads] = l;
            int count = 0;
            for (Integer one : loss) {
                count += one == null ? 0 : 1;
            }
            return count;
        }

        int away(int place, int from) {
            int[] p = places.get(place);
            return from < 0 ? p[0] + p[1] : Math.abs(p[0] - places.get(from)[0]) + Math.abs(p[1] - places.get(from)[1]);
        }

        /** The pipes as they were joined: {place, upper, length}. */
        List<int[]> lay(int set) {
            needSet(set);
            List<int[]> pipes = new ArrayList<>();
            int open = set;
            while (open != 0) {
                int[] found = null;
                for (int place = 0; place < places.size(); place++) {
                    for (int up = -1; has(open, place) && up < pipes.size(); up++) {
                        int from = up < 0 ? -1 : pipes.get(up)[0];
                        if (found == null || away(place, from) < found[2]) {
                            found = new int[] {place, from, away(place, from)};
                        }
                    }
                }
                pipes.add(found);
                open -= 1 << found[0];
            }
            return pipes;
        }

        int doPipes(int set) {
            return lay(set).stream().mapToInt(p -> p[2]).sum();
        }

        int headsOn(List<int[]> pipes, int place) {
            int count = 1;
            for (int[] pipe : pipes) {
                count += pipe[1] == place ? headsOn(pipes, pipe[0]) : 0;
            }
            return count;
        }

        int lossFor(int heads) {
            for (int told = heads; told <= 12; told++) {
                if (loss[told] != null) {
                    return loss[told];
                }
            }
            for (int told = heads; told >= 1; told--) {
                if (loss[told] != null) {
                    return loss[told];
                }
            }
            return 0;
        }

        int doPipe(int set, int place, int what) {
            List<int[]> pipes = lay(set);
            need(place >= 0 && place < places.size() && what >= 0 && what <= 4);
            for (int now = 0; now < pipes.size(); now++) {
                int[] pipe = pipes.get(now);
                if (pipe[0] == place) {
                    int heads = headsOn(pipes, place);
                    return new int[] {pipe[1], pipe[2], heads, lossFor(heads), now}[what];
                }
            }
            return -1;
        }

        int doLacks(int set, int place) {
            List<int[]> pipes = lay(set);
            need(place >= 0 && place < places.size());
            if (!has(set, place)) {
                return -1;
            }
            int sum = 0;
            for (int at = place; at != -1; at = doPipe(set, at, 0)) {
                int heads = headsOn(pipes, at);
                sum += doPipe(set, at, 1) * lossFor(heads) * heads;
            }
            return sum;
        }

        int doWorst(int set) {
            needSet(set);
            int worst = -1;
            for (int place = places.size() - 1; place >= 0; place--) {
                if (has(set, place) && (worst == -1 || doLacks(set, place) >= doLacks(set, worst))) {
                    worst = place;
                }
            }
            return worst;
        }
    }

    private static int about(int bound) {
        int kind = below(40);
        return kind == 0 ? -1 : kind == 1 ? bound : kind == 2 ? Integer.MIN_VALUE : below(bound);
    }

    private static int someSet(Model model) {
        int all = (1 << model.places.size()) - 1;
        int kind = below(30);
        return kind == 0 ? all + 1 : kind == 1 ? -1 : kind < 6 ? all : kind == 6 ? below(8192) : below(all + 1);
    }

    private interface Call {
        Object answer();
    }

    private static Object answerOf(Call call) {
        try {
            return call.answer();
        } catch (RuntimeException e) {
            return e.getClass().getSimpleName();
        }
    }

    private static boolean same(String text, Call real, Call model) {
        Object got = answerOf(real);
        Object want = answerOf(model);
        if (!want.equals(got)) {
            System.out.println(text + " answered " + got + ", due is " + want);
        }
        return want.equals(got);
    }

    private static boolean changeOne(SprinkleNets n, Model m) {
        int x = about(m.w);
        int y = about(m.h);
        int kind = below(10);
        if (kind < 5) {
            boolean on = below(3) != 0;
            return same("wall(" + x + ", " + y + ", " + on + ")", () -> n.wall(x, y, on), () -> m.doWall(x, y, on));
        }
        if (kind < 7) {
            return same("place(" + x + ", " + y + ")", () -> n.place(x, y), () -> m.doPlace(x, y));
        }
        if (kind == 7) {
            int square = below(3) == 0 ? about(402) : 1 + below(60);
            return same("reach(" + square + ")", () -> n.reach(square), () -> m.doReach(square));
        }
        int heads = about(14);
        int loss = below(4) == 0 ? 1000 + below(2) : about(1001);
        return same("size(" + heads + ", " + loss + ")", () -> n.size(heads, loss), () -> m.doSize(heads, loss));
    }

    private static boolean askReach(SprinkleNets n, Model m) {
        int set = someSet(m);
        int place = about(Math.max(1, m.places.size()));
        switch (below(6)) {
            case 0:
                return same("reached(" + place + ")", () -> n.reached(place), () -> m.doReached(place));
            case 1:
                return same("left(" + set + ")", () -> n.left(set), () -> m.unreached(set).size());
            case 2:
                int k = about(below(2) == 0 ? 260 : 5);
                return same("dry(" + set + ", " + k + ")", () -> n.dry(set, k), () -> m.doDry(set, k));
            case 3:
                return same("best()", () -> n.best(), () -> m.doBest());
            default:
                int x = about(m.w);
                int y = about(m.h);
                int u = about(m.w);
                int v = about(m.h);
                String text = "seen(" + x + ", " + y + ", " + u + ", " + v + ")";
                return same(text, () -> n.seen(x, y, u, v), () -> m.doSeen(x, y, u, v));
        }
    }

    private static boolean askPipes(SprinkleNets n, Model m) {
        int set = someSet(m);
        int place = about(Math.max(1, m.places.size()));
        switch (below(6)) {
            case 0:
                return same("pipes(" + set + ")", () -> n.pipes(set), () -> m.doPipes(set));
            case 1:
                return same("lacks(" + set + ", " + place + ")", () -> n.lacks(set, place), () -> m.doLacks(set, place));
            case 2:
                return same("worst(" + set + ")", () -> n.worst(set), () -> m.doWorst(set));
            default:
                int what = about(5);
                String text = "pipe(" + set + ", " + place + ", " + what + ")";
                return same(text, () -> n.pipe(set, place, what), () -> m.doPipe(set, place, what));
        }
    }

    private static boolean runIsGood(int run) {
        int w = run % 4 == 0 ? below(20) - 1 : 1 + below(6);
        int h = run % 4 == 0 ? below(20) - 1 : 1 + below(6);
        SprinkleNets nets = new SprinkleNets(w, h);
        Model model = new Model(w, h);
        for (int call = 0; call < CALLS; call++) {
            int kind = below(call < 60 ? 2 : 5);
            boolean good = kind == 0 ? changeOne(nets, model) : kind < 3 ? askReach(nets, model) : askPipes(nets, model);
            if (!good) {
                System.out.println("  that was call " + call + " of run " + run + ", plan " + w + " by " + h);
                return false;
            }
        }
        return true;
    }

    /** A third of the lines of a plan, past walls that stand thick and thin. */
    private static int wrongPastMany() {
        int wrong = 0;
        for (int walls = 0; walls <= 60; walls += 6) {
            Model model = new Model(16, 16);
            for (int i = 0; i < walls; i++) {
                model.doWall(below(16), below(16), true);
            }
            wrong += wrongLines(model, 3);
        }
        return wrong;
    }

    /** Every line of a plan past every wall that stands alone. */
    private static int wrongPastOne() {
        int wrong = 0;
        for (int cell = 0; cell < 256; cell++) {
            Model model = new Model(16, 16);
            model.doWall(cell % 16, cell / 16, true);
            wrong += wrongLines(model, 1);
        }
        return wrong;
    }

    /** Every apart-th line; an object is asked no more than it may be, then a new one. */
    private static int wrongLines(Model model, int apart) {
        int wrong = 0;
        int asked = CALLS;
        SprinkleNets nets = null;
        for (int line = 0; line < 1 << 16; line += apart) {
            if (asked == CALLS) {
                nets = new SprinkleNets(16, 16);
                asked = tellWalls(nets, model);
            }
            int x = line & 15;
            int y = line >> 4 & 15;
            int u = line >> 8 & 15;
            int v = line >> 12;
            wrong += nets.seen(x, y, u, v) == model.sees(x, y, u, v) ? 0 : 1;
            asked++;
        }
        return wrong;
    }

    /** Tells all walls of the model: how many calls that took. */
    private static int tellWalls(SprinkleNets nets, Model model) {
        int told = 0;
        for (int cell = 0; cell < 256; cell++) {
            if (model.wall[cell % 16][cell / 16]) {
                nets.wall(cell % 16, cell / 16, true);
                told++;
            }
        }
        return told;
    }

    public static void main(String[] args) {
        int bad = 0;
        for (int run = 0; run < RUNS; run++) {
            bad += runIsGood(run) ? 0 : 1;
        }
        int lines = wrongPastMany() + wrongPastOne();
        System.out.println(bad + " of " + RUNS + " runs and " + lines + " lines are not as the model has them");
        if (bad + lines != 0) {
            System.exit(1);
        }
    }
}
