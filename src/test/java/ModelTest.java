import java.util.TreeMap;

/**
 * Long mixed runs of calls, each answer held against a model that works everything out anew from the moves
 * arrived, written apart from the class. The runs are the same each time.
 */
public final class ModelTest {
    private static final int RUNS = 600;
    private static final int CALLS = 512;

    private static long seed = 20261115L;
    private static final int[] winnersSeen = new int[3];
    private static int settledEarly = 0;
    private static int putRight = 0;

    public static void main(String[] args) {
        for (int run = 0; run < RUNS; run++) {
            oneRun(run);
        }
        // Runs that never come to these would prove little.
        Check.due("player 0 has won in some run", winnersSeen[0] > 0, true);
        Check.due("player 1 has won in some run", winnersSeen[1] > 0, true);
        Check.due("both were out in some run", winnersSeen[2] > 0, true);
        Check.due("a fight has settled frames that are not sure", settledEarly > 0, true);
        Check.due("what was shown has been put right", putRight > 0, true);
        Check.end();
    }

    private static int below(int bound) {
        seed = seed * 6364136223846793005L + 1442695040888963407L;
        return (int) ((seed >>> 33) % bound);
    }

    private static void oneRun(int run) {
        RollbackGame x = new RollbackGame();
        Model model = new Model();
        int style = below(4);
        for (int call = 0; call < CALLS; call++) {
            String name = "run " + run + ", call " + call + ": ";
            int kind = below(20);
            if (kind < 8) {
                arrive(name, x, model, style);
            } else if (kind < 10) {
                Check.due(name + "tick()", x.tick(), model.tick());
            } else {
                ask(name, x, model, kind);
            }
        }
    }

    private static void arrive(String name, RollbackGame x, Model model, int style) {
        boolean wild = below(20) == 0;
        int p = wild ? below(5) - 2 : below(2);
        int frame = wild ? below(46) - 3 : nextFrame(model, p, style);
        int move = wild ? below(8) - 2 : likelyMove(p, frame, style);
        int want = model.arrive(p, frame, move);
        if (want > 0) {
            putRight++;
        }
        Check.due(name + "arrive(" + p + ", " + frame + ", " + move + ")", x.arrive(p, frame, move), want);
    }

    /** Mostly in order in some styles, so that fights come to a sure end. */
    private static int nextFrame(Model model, int p, int style) {
        int first = model.missing(p);
        if (first < 0 || style == 0) {
            return below(40);
        }
        int frame = first + below(style == 1 ? 2 : 6);
        return frame < 40 ? frame : 39;
    }

    /** In most styles the players come together first and then strike, or else hardly a fight would end. */
    private static int likelyMove(int p, int frame, int style) {
        if (style == 0 || below(6) == 0) {
            return below(4);
        }
        if (frame < 3) {
            return p == 0 ? 2 : 1;
        }
        return style == 2 && p == 1 ? below(3) : 3;
    }

    private static void ask(String name, RollbackGame x, Model model, int kind) {
        int p = below(12) == 0 ? below(6) - 2 : below(2);
        int n = below(12) == 0 ? below(60) - 9 : below(41);
        switch (kind) {
            case 10 -> Check.due(name + "played()", x.played(), model.played);
            case 11 -> Check.due(name + "sure()", x.sure(), model.sure());
            case 12 -> Check.due(name + "position(" + p + ")", x.position(p), model.part(p, 0));
            case 13 -> Check.due(name + "strength(" + p + ")", x.strength(p), model.part(p, 1));
            case 14 -> Check.due(name + "pause(" + p + ")", x.pause(p), model.part(p, 2));
            case 15 -> Check.due(name + "shown(" + n + ")", x.shown(n), model.shown(n));
            case 16 -> Check.due(name + "move(" + p + ", " + n + ")", x.move(p, n), model.move(p, n));
            case 17 -> Check.due(name + "missing(" + p + ")", x.missing(p), model.missing(p));
            case 18 -> askTheEnd(name, x, model, n);
            default -> askSettled(name, x, model);
        }
    }

    private static void askTheEnd(String name, RollbackGame x, Model model, int n) {
        if (below(2) == 0) {
            Check.due(name + "overAfter()", x.overAfter(), model.overAfter());
            return;
        }
        int want = model.winner(n);
        if (want >= 0) {
            winnersSeen[want]++;
        }
        Check.due(name + "winner(" + n + ")", x.winner(n), want);
    }

    private static void askSettled(String name, RollbackGame x, Model model) {
        boolean want = model.settled();
        if (want && model.played > model.sure()) {
            settledEarly++;
        }
        Check.due(name + "settled()", x.settled(), want);
    }

    /** The document in its plainest form: nothing is kept but the moves arrived and the frames played. */
    private static final class Model {
        private final TreeMap<Integer, Integer> moves0 = new TreeMap<>();
        private final TreeMap<Integer, Integer> moves1 = new TreeMap<>();
        private int played = 0;

        private TreeMap<Integer, Integer> of(int p) {
            return p == 0 ? moves0 : moves1;
        }

        int arrive(int p, int frame, int move) {
            if (p < 0 || p > 1 || frame < 0 || frame > 39 || move < 0 || move > 3 || of(p).containsKey(frame)) {
                return -1;
            }
            int[] before = new int[played + 1];
            for (int n = 1; n <= played; n++) {
                before[n] = shown(n);
            }
            of(p).put(frame, move);
            int differing = 0;
            for (int n = 1; n <= played; n++) {
                differing += shown(n) == before[n] ? 0 : 1;
            }
            return differing;
        }

        int tick() {
            return played == 40 ? -1 : ++played;
        }

        int sure() {
            int frames = 0;
            while (moves0.containsKey(frames) && moves1.containsKey(frames)) {
                frames++;
            }
            return frames;
        }

        int part(int p, int which) {
            return p < 0 || p > 1 ? -1 : after(played)[3 * p + which];
        }

        int shown(int n) {
            if (n < 0 || n > 40) {
                return -1;
            }
            int[] f = after(n);
            return f[0] + 10 * f[3] + 100 * f[1] + 1000 * f[4] + 10000 * f[2] + 100000 * f[5];
        }

        int move(int p, int frame) {
            if (p < 0 || p > 1 || frame < 0 || frame > 39) {
                return -1;
            }
            var last = of(p).floorEntry(frame);
            if (last == null) {
                return 0;
            }
            return last.getKey() < frame && last.getValue() == 3 ? 0 : last.getValue();
        }

        int missing(int p) {
            if (p < 0 || p > 1) {
                return -1;
            }
            int frame = 0;
            while (of(p).containsKey(frame)) {
                frame++;
            }
            return frame == 40 ? -2 : frame;
        }

        int winner(int n) {
            if (n < 0 || n > 40) {
                return -1;
            }
            int[] f = after(n);
            int out = (f[1] == 0 ? 1 : 0) + (f[4] == 0 ? 2 : 0);
            return new int[] {-2, 1, 0, 2}[out];
        }

        int overAfter() {
            int n = 0;
            while (n <= 40 && winner(n) == -2) {
                n++;
            }
            return n <= 40 ? n : -2;
        }

        boolean settled() {
            return sure() >= played || winner(sure()) != -2;
        }

        /** The place, strength and pause of player 0, then those of player 1. */
        private int[] after(int n) {
            int[] f = {2, 5, 0, 7, 5, 0};
            for (int frame = 0; frame < n && f[1] > 0 && f[4] > 0; frame++) {
                boolean[] ready = {f[2] == 0, f[5] == 0};
                for (int p = 0; p < 2; p++) {
                    f[3 * p + 2] -= ready[p] ? 0 : 1;
                }
                for (int p = 0; p < 2; p++) {
                    int step = new int[] {0, -1, 1, 0}[move(p, frame)];
                    int goal = Math.max(0, Math.min(9, f[3 * p] + step));
                    f[3 * p] = ready[p] && goal != f[3 - 3 * p] ? goal : f[3 * p];
                }
                for (int p = 0; p < 2; p++) {
                    if (ready[p] && move(p, frame) == 3) {
                        f[3 * p + 2] = 2;
                        f[4 - 3 * p] -= Math.abs(f[0] - f[3]) <= 1 ? 1 : 0;
                    }
                }
            }
            return f;
        }
    }
}
