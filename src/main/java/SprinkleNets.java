import java.util.Arrays;

/**
 * Sprinklers over a plan of cells: what a head reaches past the walls, which
 * places together reach every free cell, and the pipes that join them.
 */
public final class SprinkleNets {
    public static final int NONE = -1;

    private static final int MOST_SIDE = 16;
    private static final int MOST_REACH = 400;
    private static final int FIRST_REACH = 16;
    private static final int MOST_PLACES = 12;
    private static final int MOST_HEADS = 12;
    private static final int MOST_LOSS = 1000;

    private static final int UPPER = 0;
    private static final int LENGTH = 1;
    private static final int HEADS = 2;
    private static final int LOSS = 3;
    private static final int TURN = 4;

    private final int width;
    private final int height;
    // Rows are always MOST_SIDE long, so that a cell's number needs no division
    // by the width; what lies beyond the plan is held as wall and never counts.
    private final boolean[] walls;
    private int reachSquare;

    private final int[] placeX;
    private final int[] placeY;
    private int placeCount;

    // For each cell the places (bits) that reach it. It is made anew only when
    // it is asked for after a change, since many questions follow one change.
    private final int[] reachers;
    private boolean reachersAreOld;

    // lossOf[n] is the loss of the size for n heads, NONE if none was told.
    private final int[] lossOf;
    private int sizeCount;

    // The pipes of the set that was asked for last, by place; joined holds the
    // places in the order of their joining.
    private final int[] upper;
    private final int[] length;
    private final int[] headsOn;
    private final int[] turn;
    private final int[] lack;
    private final int[] joined;
    private int joinedCount;

    public SprinkleNets(int w, int h) {
        width = Math.max(1, Math.min(MOST_SIDE, w));
        height = Math.max(1, Math.min(MOST_SIDE, h));
        walls = new boolean[MOST_SIDE * MOST_SIDE];
        for (int cell = 0; cell < walls.length; cell++) {
            walls[cell] = cell % MOST_SIDE >= width || cell / MOST_SIDE >= height;
        }
        reachSquare = FIRST_REACH;
        placeX = new int[MOST_PLACES];
        placeY = new int[MOST_PLACES];
        placeCount = 0;
        reachers = new int[MOST_SIDE * MOST_SIDE];
        reachersAreOld = false;
        lossOf = new int[MOST_HEADS + 1];
        Arrays.fill(lossOf, NONE);
        sizeCount = 0;
        upper = new int[MOST_PLACES];
        length = new int[MOST_PLACES];
        headsOn = new int[MOST_PLACES];
        turn = new int[MOST_PLACES];
        lack = new int[MOST_PLACES];
        joined = new int[MOST_PLACES];
        joinedCount = 0;
    }

    public boolean wall(int x, int y, boolean on) throws IllegalArgumentException {
        needCell(x, y);
        boolean was = isWall(x, y);
        walls[cellAt(x, y)] = on;
        reachersAreOld = true;
        return was;
    }

    public int reach(int square) throws IllegalArgumentException {
        if (square < 1 || square > MOST_REACH) {
            throw new IllegalArgumentException("reach is out of its bounds");
        }
        int was = reachSquare;
        reachSquare = square;
        reachersAreOld = true;
        return was;
    }

    public int place(int x, int y) throws IllegalArgumentException, IllegalStateException {
        needCell(x, y);
        if (isWall(x, y)) {
            throw new IllegalStateException("the cell is a wall");
        }
        if (isPlace(x, y)) {
            throw new IllegalStateException("the cell is a place already");
        }
        if (placeCount >= MOST_PLACES) {
            throw new IllegalStateException("there are as many places as there may be");
        }
        int place = placeCount;
        placeX[place] = x;
        placeY[place] = y;
        placeCount++;
        reachersAreOld = true;
        return place;
    }

    // ---- what is reached

    public boolean seen(int x, int y, int u, int v) throws IllegalArgumentException {
        needCell(x, y);
        needCell(u, v);
        return lineIsFree(x, y, u, v);
    }

    public int reached(int place) throws IllegalArgumentException {
        needPlace(place);
        findReachers();
        int count = 0;
        for (int cell = 0; cell < reachers.length; cell++) {
            if (holds(reachers[cell], place)) {
                count++;
            }
        }
        return count;
    }

    public int left(int set) throws IllegalArgumentException {
        needSet(set);
        findReachers();
        int count = 0;
        for (int cell = 0; cell < walls.length; cell++) {
            if (isDry(cell, set)) {
                count++;
            }
        }
        return count;
    }

    public int dry(int set, int k) throws IllegalArgumentException {
        needSet(set);
        if (k < 0) {
            throw new IllegalArgumentException("k is below 0");
        }
        findReachers();
        int cell = dryCell(set, k);
        return cell == NONE ? NONE : 100 * (cell / MOST_SIDE) + cell % MOST_SIDE;
    }

    public int best() {
        findReachers();
        int all = allPlaces();
        if (dryCell(all, 0) != NONE) {
            return NONE;
        }
        int best = all;
        int fewest = placeCount + 1;
        // A cell that one set misses is often missed by the next ones too, so
        // it is looked at before the whole plan is.
        int hard = 0;
        for (int set = 0; set <= all; set++) {
            int count = Integer.bitCount(set);
            if (count < fewest && !isDry(hard, set)) {
                int missed = dryCell(set, 0);
                if (missed == NONE) {
                    best = set;
                    fewest = count;
                } else {
                    hard = missed;
                }
            }
        }
        return best;
    }

    // ---- pipes

    public int size(int heads, int loss) throws IllegalArgumentException {
        if (heads < 1 || heads > MOST_HEADS) {
            throw new IllegalArgumentException("heads are out of their bounds");
        }
        if (loss < 0 || loss > MOST_LOSS) {
            throw new IllegalArgumentException("loss is out of its bounds");
        }
        if (lossOf[heads] == NONE) {
            sizeCount++;
        }
        lossOf[heads] = loss;
        return sizeCount;
    }

    public int pipes(int set) throws IllegalArgumentException {
        needSet(set);
        layPipes(set);
        int sum = 0;
        for (int place = 0; place < MOST_PLACES; place++) {
            if (holds(set, place)) {
                sum += length[place];
            }
        }
        return sum;
    }

    public int pipe(int set, int place, int what) throws IllegalArgumentException {
        needSet(set);
        needPlace(place);
        if (what < UPPER || what > TURN) {
            throw new IllegalArgumentException("there is no such thing of a pipe");
        }
        if (!holds(set, place)) {
            return NONE;
        }
        layPipes(set);
        switch (what) {
            case UPPER:
                return upper[place];
            case LENGTH:
                return length[place];
            case HEADS:
                return headsOn[place];
            case LOSS:
                return lossFor(headsOn[place]);
            default:
                return turn[place];
        }
    }

    public int lacks(int set, int place) throws IllegalArgumentException {
        needSet(set);
        needPlace(place);
        if (!holds(set, place)) {
            return NONE;
        }
        layPipes(set);
        return lack[place];
    }

    public int worst(int set) throws IllegalArgumentException {
        needSet(set);
        layPipes(set);
        int worst = NONE;
        int most = NONE;
        for (int place = 0; place < MOST_PLACES; place++) {
            if (holds(set, place) && lack[place] > most) {
                worst = place;
                most = lack[place];
            }
        }
        return worst;
    }

    // ---- what calls may say

    private void needCell(int x, int y) {
        if (!inPlan(x, y)) {
            throw new IllegalArgumentException("there is no such cell");
        }
    }

    private void needPlace(int place) {
        if (place < 0 || place >= placeCount) {
            throw new IllegalArgumentException("there is no such place");
        }
    }

    private void needSet(int set) {
        if ((set & ~allPlaces()) != 0) {
            throw new IllegalArgumentException("a bit of the set is no place");
        }
    }

    // ---- cells, places and sets

    private boolean inPlan(int x, int y) {
        return x >= 0 && x < width && y >= 0 && y < height;
    }

    private static int cellAt(int x, int y) {
        return y * MOST_SIDE + x;
    }

    private boolean isWall(int x, int y) {
        return !inPlan(x, y) || walls[cellAt(x, y)];
    }

    private boolean isPlace(int x, int y) {
        for (int place = 0; place < MOST_PLACES && place < placeCount; place++) {
            if (placeX[place] == x && placeY[place] == y) {
                return true;
            }
        }
        return false;
    }

    private int allPlaces() {
        return (1 << placeCount) - 1;
    }

    private static boolean holds(int set, int place) {
        return (set >> place & 1) != 0;
    }

    // ---- sight

    /**
     * Walks through the cells whose inside the line between two middles
     * crosses. Where the line leaves a cell through a corner, the walk goes on
     * in the cell across that corner: the two beside it are only touched.
     */
    private boolean lineIsFree(int x, int y, int u, int v) {
        int across = Math.abs(u - x);
        int down = Math.abs(v - y);
        int stepX = u < x ? -1 : 1;
        int stepY = v < y ? -1 : 1;
        int i = 0;
        int j = 0;
        for (int step = 0; step <= across + down; step++) {
            if (isWall(x + i * stepX, y + j * stepY)) {
                return false;
            }
            if (i == across && j == down) {
                return true;
            }
            // The next upright side is met after (2 i + 1) / (2 across) of the
            // line, the next level one after (2 j + 1) / (2 down) of it.
            int uprightLater = (2 * i + 1) * down - (2 * j + 1) * across;
            if (uprightLater <= 0) {
                i++;
            }
            if (uprightLater >= 0) {
                j++;
            }
        }
        return true;
    }

    private boolean isNear(int x, int y, int u, int v) {
        return (x - u) * (x - u) + (y - v) * (y - v) <= reachSquare;
    }

    private void findReachers() {
        if (!reachersAreOld) {
            return;
        }
        Arrays.fill(reachers, 0);
        for (int place = 0; place < MOST_PLACES && place < placeCount; place++) {
            addReacher(place, placeX[place], placeY[place]);
        }
        reachersAreOld = false;
    }

    private void addReacher(int place, int x, int y) {
        for (int v = 0; v < height; v++) {
            for (int u = 0; u < width; u++) {
                if (isNear(x, y, u, v) && lineIsFree(x, y, u, v)) {
                    reachers[cellAt(u, v)] |= 1 << place;
                }
            }
        }
    }

    private boolean isDry(int cell, int set) {
        return !walls[cell] && (reachers[cell] & set) == 0;
    }

    private int dryCell(int set, int k) {
        int before = 0;
        for (int cell = 0; cell < walls.length; cell++) {
            if (isDry(cell, set)) {
                if (before == k) {
                    return cell;
                }
                before++;
            }
        }
        return NONE;
    }

    // ---- laying pipes

    private void layPipes(int set) {
        joinPlaces(set);
        countHeads();
        addLacks();
    }

    private void joinPlaces(int set) {
        for (int place = 0; place < MOST_PLACES; place++) {
            upper[place] = NONE;
            length[place] = placeX[place] + placeY[place];
        }
        joinedCount = 0;
        int waiting = set;
        for (int now = 0; now < MOST_PLACES; now++) {
            int next = nearestOf(waiting);
            if (next == NONE) {
                return;
            }
            joined[now] = next;
            turn[next] = now;
            joinedCount = now + 1;
            waiting &= ~(1 << next);
            offerUpper(next, waiting);
        }
    }

    private int nearestOf(int waiting) {
        int nearest = NONE;
        int least = 0;
        for (int place = 0; place < MOST_PLACES; place++) {
            if (holds(waiting, place) && (nearest == NONE || length[place] < least)) {
                nearest = place;
                least = length[place];
            }
        }
        return nearest;
    }

    /** Only a shorter way wins, so that of equal ones the first joined stays. */
    private void offerUpper(int offered, int waiting) {
        for (int place = 0; place < MOST_PLACES; place++) {
            int way = Math.abs(placeX[place] - placeX[offered]) + Math.abs(placeY[place] - placeY[offered]);
            if (holds(waiting, place) && way < length[place]) {
                upper[place] = offered;
                length[place] = way;
            }
        }
    }

    /** What hangs on a place was joined after it, so the last joined go first. */
    private void countHeads() {
        Arrays.fill(headsOn, 1);
        for (int now = Math.min(joinedCount, MOST_PLACES) - 1; now >= 0; now--) {
            int place = joined[now];
            int above = upper[place];
            if (above >= 0 && above < MOST_PLACES) {
                headsOn[above] += headsOn[place];
            }
        }
    }

    private void addLacks() {
        for (int now = 0; now < MOST_PLACES && now < joinedCount; now++) {
            int place = joined[now];
            int above = upper[place];
            int lost = length[place] * lossFor(headsOn[place]) * headsOn[place];
            lack[place] = above >= 0 && above < MOST_PLACES ? lack[above] + lost : lost;
        }
    }

    private int lossFor(int headCount) {
        int greatest = 0;
        for (int told = 1; told <= MOST_HEADS; told++) {
            if (lossOf[told] != NONE) {
                greatest = lossOf[told];
                if (told >= headCount) {
                    return greatest;
                }
            }
        }
        return greatest;
    }
}
