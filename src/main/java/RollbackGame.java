public final class RollbackGame {
    public static final int BAD = -1;
    public static final int NONE = -2;

    private static final int FRAMES = 40;

    private static final int REST = 0;
    private static final int LEFT = 1;
    private static final int RIGHT = 2;
    private static final int STRIKE = 3;

    private static final int LAST_PLACE = 9;
    private static final int START_PLACE_0 = 2;
    private static final int START_PLACE_1 = 7;
    private static final int START_STRENGTH = 5;
    private static final int STRIKE_PAUSE = 2;
    private static final int REACH = 1;

    private static final int BOTH = 2;

    // Player p's move for a frame lies at 2 * frame + p.
    private final boolean[] arrived = new boolean[80];
    private final int[] moves = new int[80];

    // What is shown of player p after n frames lies at 2 * n + p. It is held for
    // every n, so that an arrival can tell what it has changed.
    private final int[] places = new int[82];
    private final int[] strengths = new int[82];
    private final int[] pauses = new int[82];

    private int framesPlayed;

    public RollbackGame() {
        framesPlayed = 0;
        places[0] = START_PLACE_0;
        places[1] = START_PLACE_1;
        strengths[0] = START_STRENGTH;
        strengths[1] = START_STRENGTH;
        replayFrom(0);
    }

    public int arrive(int p, int frame, int move) {
        if (!isPlayer(p) || !isFrame(frame) || !isMove(move)) {
            return BAD;
        }
        int slot = 2 * frame + p;
        if (arrived[slot]) {
            return BAD;
        }
        arrived[slot] = true;
        moves[slot] = move;
        return replayFrom(frame);
    }

    public int tick() {
        if (framesPlayed >= FRAMES) {
            return BAD;
        }
        framesPlayed++;
        return framesPlayed;
    }

    public int played() {
        return framesPlayed;
    }

    public int sure() {
        int first0 = firstGap(0);
        int first1 = firstGap(1);
        return first0 < first1 ? first0 : first1;
    }

    public int position(int p) {
        return isPlayer(p) ? places[2 * framesPlayed + p] : BAD;
    }

    public int strength(int p) {
        return isPlayer(p) ? strengths[2 * framesPlayed + p] : BAD;
    }

    public int pause(int p) {
        return isPlayer(p) ? pauses[2 * framesPlayed + p] : BAD;
    }

    public int shown(int n) {
        return isFrameCount(n) ? fieldCode(n) : BAD;
    }

    public int move(int p, int frame) {
        return isPlayer(p) && isFrame(frame) ? usedMove(p, frame) : BAD;
    }

    public int missing(int p) {
        if (!isPlayer(p)) {
            return BAD;
        }
        int first = firstGap(p);
        return first < FRAMES ? first : NONE;
    }

    public int winner(int n) {
        if (!isFrameCount(n)) {
            return BAD;
        }
        boolean out0 = isOut(0, n);
        boolean out1 = isOut(1, n);
        if (out0 && out1) {
            return BOTH;
        }
        if (out1) {
            return 0;
        }
        return out0 ? 1 : NONE;
    }

    public int overAfter() {
        for (int n = 0; n <= FRAMES; n++) {
            if (isOver(n)) {
                return n;
            }
        }
        return NONE;
    }

    public boolean settled() {
        int sureFrames = sure();
        return framesPlayed <= sureFrames || isOver(sureFrames);
    }

    private static boolean isPlayer(int p) {
        return p == 0 || p == 1;
    }

    private static boolean isFrame(int frame) {
        return frame >= 0 && frame < FRAMES;
    }

    private static boolean isFrameCount(int n) {
        return n >= 0 && n <= FRAMES;
    }

    private static boolean isMove(int move) {
        return move >= REST && move <= STRIKE;
    }

    /** The least frame whose move of player p has not arrived; FRAMES when all have. */
    private int firstGap(int p) {
        for (int frame = 0; frame < FRAMES; frame++) {
            if (!arrived[2 * frame + p]) {
                return frame;
            }
        }
        return FRAMES;
    }

    /** The move that has arrived, or the guess for it. */
    private int usedMove(int p, int frame) {
        if (arrived[2 * frame + p]) {
            return moves[2 * frame + p];
        }
        for (int earlier = frame - 1; earlier >= 0; earlier--) {
            if (arrived[2 * earlier + p]) {
                int last = moves[2 * earlier + p];
                return last == STRIKE ? REST : last;
            }
        }
        return REST;
    }

    private int fieldCode(int n) {
        int at = 2 * n;
        return places[at] + 10 * places[at + 1]
            + 100 * strengths[at] + 1000 * strengths[at + 1]
            + 10000 * pauses[at] + 100000 * pauses[at + 1];
    }

    private boolean isOut(int p, int n) {
        return strengths[2 * n + p] == 0;
    }

    private boolean isOver(int n) {
        return isOut(0, n) || isOut(1, n);
    }

    /** Shows the frames from first on anew; answers how many of those played differ. */
    private int replayFrom(int first) {
        int changed = 0;
        for (int frame = first; frame < FRAMES; frame++) {
            int before = fieldCode(frame + 1);
            playFrame(frame);
            int after = fieldCode(frame + 1);
            if (frame < framesPlayed && after != before) {
                changed++;
            }
        }
        return changed;
    }

    private void playFrame(int frame) {
        int n = frame + 1;
        carryOver(0, n);
        carryOver(1, n);
        if (isOver(frame)) {
            return;
        }
        // Both are taken before a pause changes: a pause that ends in this frame
        // still holds its player back in it.
        int taken0 = takenMove(0, frame);
        int taken1 = takenMove(1, frame);
        easePause(0, n);
        easePause(1, n);
        walk(0, n, taken0);
        walk(1, n, taken1);
        strike(0, n, taken0);
        strike(1, n, taken1);
    }

    /** Begins what is shown after n frames with what was shown one frame before. */
    private void carryOver(int p, int n) {
        int at = 2 * n + p;
        places[at] = places[at - 2];
        strengths[at] = strengths[at - 2];
        pauses[at] = pauses[at - 2];
    }

    /** What the player does in the frame: a player in a pause rests. */
    private int takenMove(int p, int frame) {
        return pauses[2 * frame + p] > 0 ? REST : usedMove(p, frame);
    }

    private void easePause(int p, int n) {
        int at = 2 * n + p;
        if (pauses[at] > 0) {
            pauses[at]--;
        }
    }

    private void walk(int p, int n, int taken) {
        int goal = places[2 * n + p];
        if (taken == LEFT) {
            goal--;
        } else if (taken == RIGHT) {
            goal++;
        }
        boolean onField = goal >= 0 && goal <= LAST_PLACE;
        if (onField && goal != places[2 * n + 1 - p]) {
            places[2 * n + p] = goal;
        }
    }

    private void strike(int p, int n, int taken) {
        if (taken != STRIKE) {
            return;
        }
        int own = 2 * n + p;
        int other = 2 * n + 1 - p;
        pauses[own] = STRIKE_PAUSE;
        int distance = places[own] - places[other];
        boolean reached = distance >= -REACH && distance <= REACH;
        if (reached && strengths[other] > 0) {
            strengths[other]--;
        }
    }
}
