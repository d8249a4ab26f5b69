/** The promises of the document, one method or more for each: ordinary inputs, edges and wrong inputs. */
public final class PromisesTest {
    private static final int BAD = RollbackGame.BAD;
    private static final int NONE = RollbackGame.NONE;
    private static final int[] NO_PLAYERS = {-1, 2, 3, 40, Integer.MIN_VALUE, Integer.MAX_VALUE};
    private static final int[] NO_FRAMES = {-1, 40, 41, 80, Integer.MIN_VALUE, Integer.MAX_VALUE};
    private static final int[] NO_MOVES = {-1, 4, 5, Integer.MIN_VALUE, Integer.MAX_VALUE};
    private static final int[] NO_COUNTS = {-1, 41, 42, Integer.MIN_VALUE, Integer.MAX_VALUE};

    /** Player 0 wins in frame 14, the frames 0 .. 14 being sure. */
    private static final String WINNING = "rrs..s..s..s..s";
    private static final String LOSING = "ll.............";

    public static void main(String[] args) {
        promise1NewObject();
        promise1ObjectsAreApart();
        promise2ArriveRefuses();
        promise2ArriveCounts();
        promise2ArriveCountsOnlyFramesPlayed();
        promise2ArriveCountsThroughGuesses();
        promise2ArriveAfterTheFight();
        promise3Tick();
        promise3TickRefuses();
        promise4Played();
        promise5Sure();
        promises6To8FollowTheFramesPlayed();
        promises6To8AreRolledBack();
        promises6To8Refuse();
        promise9Shown();
        promise10Move();
        promise11Missing();
        promise12Winner();
        promise13OverAfter();
        promise14Settled();
        promise14SettledByTheFight();
        Check.end();
    }

    private static void promise1NewObject() {
        RollbackGame x = new RollbackGame();
        Check.due("new: played()", x.played(), 0);
        Check.due("new: sure()", x.sure(), 0);
        Check.due("new: overAfter()", x.overAfter(), NONE);
        Check.due("new: settled()", x.settled(), true);
        Check.due("new: position(0)", x.position(0), 2);
        Check.due("new: position(1)", x.position(1), 7);
        for (int p = 0; p < 2; p++) {
            Check.due("new: strength(" + p + ")", x.strength(p), 5);
            Check.due("new: pause(" + p + ")", x.pause(p), 0);
            Check.due("new: missing(" + p + ")", x.missing(p), 0);
            for (int frame = 0; frame < 40; frame++) {
                Check.due("new: move(" + p + ", " + frame + ")", x.move(p, frame), 0);
            }
        }
        for (int n = 0; n <= 40; n++) {
            Check.due("new: shown(" + n + ")", x.shown(n), 5572);
            Check.due("new: winner(" + n + ")", x.winner(n), NONE);
        }
    }

    private static void promise1ObjectsAreApart() {
        RollbackGame x = new RollbackGame();
        RollbackGame y = new RollbackGame();
        String before = Check.answers(y);
        x.arrive(0, 0, 2);
        x.arrive(1, 0, 3);
        x.tick();
        Check.due("another object is untouched", Check.answers(y).equals(before), true);
    }

    private static void promise2ArriveRefuses() {
        RollbackGame x = Check.game("rr", "l.s");
        Check.ticks(x, 5);
        String before = Check.answers(x);
        for (int p : NO_PLAYERS) {
            Check.due("arrive(" + p + ", 5, 1)", x.arrive(p, 5, 1), BAD);
        }
        for (int frame : NO_FRAMES) {
            Check.due("arrive(0, " + frame + ", 1)", x.arrive(0, frame, 1), BAD);
            Check.due("arrive(1, " + frame + ", 1)", x.arrive(1, frame, 1), BAD);
        }
        for (int move : NO_MOVES) {
            Check.due("arrive(0, 5, " + move + ")", x.arrive(0, 5, move), BAD);
            Check.due("arrive(1, 5, " + move + ")", x.arrive(1, 5, move), BAD);
        }
        for (int move = 0; move < 4; move++) {
            Check.due("arrive(0, 1, " + move + ") again", x.arrive(0, 1, move), BAD);
            Check.due("arrive(1, 1, " + move + ") again", x.arrive(1, 1, move), BAD);
        }
        Check.due("what is refused changes nothing", Check.answers(x).equals(before), true);
        // What was refused for its move has not arrived.
        Check.due("arrive(0, 5, 0)", x.arrive(0, 5, 0), 0);
        Check.due("arrive(1, 5, 0)", x.arrive(1, 5, 0), 0);
        Check.due("arrive(0, 39, 0)", x.arrive(0, 39, 0), 0);
        Check.due("arrive(1, 39, 3)", x.arrive(1, 39, 3), 0);
        Check.due("move(1, 39)", x.move(1, 39), 3);
    }

    private static void promise2ArriveCounts() {
        RollbackGame x = new RollbackGame();
        Check.ticks(x, 10);
        Check.due("arrive(0, 0, 2)", x.arrive(0, 0, 2), 10);
        // From frame 4 on player 0 stood before player 1 anyway.
        Check.due("arrive(0, 6, 2)", x.arrive(0, 6, 2), 0);
        Check.due("arrive(0, 4, 0)", x.arrive(0, 4, 0), 0);
        // Resting in the frames 2 to 5, player 0 stands there again only after 8.
        Check.due("arrive(0, 2, 0)", x.arrive(0, 2, 0), 5);
        Check.due("shown(10)", x.shown(10), 5576);
        // A strike out of reach is seen only as long as its pause.
        Check.due("arrive(1, 1, 3)", x.arrive(1, 1, 3), 2);
        Check.due("arrive(1, 2, 3) in the pause", x.arrive(1, 2, 3), 0);
        // In reach it is seen to the end, for the points.
        Check.ticks(x, 4);
        Check.due("arrive(1, 8, 3)", x.arrive(1, 8, 3), 6);
        Check.due("strength(0)", x.strength(0), 4);
    }

    private static void promise2ArriveCountsOnlyFramesPlayed() {
        RollbackGame x = new RollbackGame();
        Check.due("arrive(0, 0, 1) before any tick", x.arrive(0, 0, 1), 0);
        Check.ticks(x, 4);
        Check.due("arrive(1, 4, 3) beyond the frames played", x.arrive(1, 4, 3), 0);
        Check.due("arrive(1, 3, 3) in the last frame played", x.arrive(1, 3, 3), 1);
        Check.due("arrive(1, 0, 2)", x.arrive(1, 0, 2), 4);
        Check.ticks(x, 35);
        Check.due("arrive(0, 39, 3) after 39 ticks", x.arrive(0, 39, 3), 0);
        x.tick();
        Check.due("arrive(1, 39, 3) after 40 ticks", x.arrive(1, 39, 3), 1);
    }

    private static void promise2ArriveCountsThroughGuesses() {
        RollbackGame x = new RollbackGame();
        Check.ticks(x, 8);
        Check.due("arrive(0, 5, 1)", x.arrive(0, 5, 1), 3);
        // The guess for frame 4 changes with it, that for frame 6 does not.
        Check.due("arrive(0, 3, 2)", x.arrive(0, 3, 2), 5);
        Check.due("arrive(0, 2, 1)", x.arrive(0, 2, 1), 6);
        Check.due("shown(3)", x.shown(3), 5571);
        Check.due("shown(5)", x.shown(5), 5573);
        Check.due("shown(8)", x.shown(8), 5570);
        // Only the frames between differ: both ways lead to the wall.
        Check.due("arrive(0, 4, 1)", x.arrive(0, 4, 1), 3);
        Check.due("shown(8) at the wall", x.shown(8), 5570);
    }

    private static void promise2ArriveAfterTheFight() {
        RollbackGame x = Check.game(WINNING, LOSING);
        Check.ticks(x, 40);
        Check.due("arrive(1, 15, 3) after the fight", x.arrive(1, 15, 3), 0);
        Check.due("arrive(0, 39, 1) after the fight", x.arrive(0, 39, 1), 0);
        Check.due("arrive(0, 39, 1) again", x.arrive(0, 39, 1), BAD);
        Check.due("move(1, 15)", x.move(1, 15), 3);
        // A fight that was over as shown goes on when player 1 is seen to have left.
        RollbackGame y = new RollbackGame();
        Check.send(y, 0, 0, WINNING);
        Check.send(y, 1, 0, "ll");
        Check.send(y, 1, 4, ".");
        Check.ticks(y, 20);
        Check.due("overAfter()", y.overAfter(), 15);
        Check.due("arrive(1, 3, 2)", y.arrive(1, 3, 2), 17);
        Check.due("overAfter() put right", y.overAfter(), NONE);
    }

    private static void promise3Tick() {
        RollbackGame x = Check.game("rr.s", "ls");
        String lasting = Check.lasting(x);
        for (int count = 1; count <= 40; count++) {
            Check.due("tick()", x.tick(), count);
        }
        Check.due("playing changes nothing else", Check.lasting(x).equals(lasting), true);
        // Playing goes on after the fight.
        RollbackGame over = Check.game(WINNING, LOSING);
        Check.ticks(over, 20);
        Check.due("tick() after the fight", over.tick(), 21);
    }

    private static void promise3TickRefuses() {
        RollbackGame x = Check.game("rr.s", "ls");
        Check.ticks(x, 40);
        String before = Check.answers(x);
        Check.due("tick() after 40", x.tick(), BAD);
        Check.due("tick() after 40 again", x.tick(), BAD);
        Check.due("what is refused changes nothing", Check.answers(x).equals(before), true);
    }

    private static void promise4Played() {
        RollbackGame x = new RollbackGame();
        for (int count = 0; count < 40; count++) {
            Check.due("played()", x.played(), count);
            x.arrive(0, count, 2);
            Check.due("played() after arrive", x.played(), count);
            x.tick();
        }
        Check.due("played()", x.played(), 40);
        x.tick();
        Check.due("played() after a tick refused", x.played(), 40);
    }

    private static void promise5Sure() {
        RollbackGame x = new RollbackGame();
        x.arrive(0, 1, 0);
        x.arrive(1, 1, 0);
        Check.due("sure() without frame 0", x.sure(), 0);
        x.arrive(0, 0, 0);
        Check.due("sure() without player 1", x.sure(), 0);
        x.arrive(1, 0, 0);
        Check.due("sure() with both", x.sure(), 2);
        x.arrive(1, 2, 3);
        Check.due("sure() without player 0", x.sure(), 2);
        x.arrive(0, 2, 3);
        Check.due("sure()", x.sure(), 3);
        x.tick();
        Check.due("sure() after a tick", x.sure(), 3);
        for (int frame = 39; frame > 3; frame--) {
            x.arrive(0, frame, 0);
            x.arrive(1, frame, 0);
        }
        Check.due("sure() with frame 3 missing", x.sure(), 3);
        x.arrive(1, 3, 0);
        Check.due("sure() with frame 3 of player 0 missing", x.sure(), 3);
        x.arrive(0, 3, 0);
        Check.due("sure() with all", x.sure(), 40);
        Check.due("sure() after the fight", Check.game(WINNING + "...", LOSING + "..").sure(), 17);
    }

    private static void promises6To8FollowTheFramesPlayed() {
        RollbackGame x = Check.game("rrs....s..", "ll.s....r.");
        for (int n = 0; n <= 40; n++) {
            int packed = x.position(0) + 10 * x.position(1) + 100 * x.strength(0)
                + 1000 * x.strength(1) + 10000 * x.pause(0) + 100000 * x.pause(1);
            Check.due("the field after " + n + " frames", packed, x.shown(n));
            if (n == 4) {
                Check.due("position(0)", x.position(0), 4);
                Check.due("position(1)", x.position(1), 5);
                Check.due("strength(0)", x.strength(0), 4);
                Check.due("strength(1)", x.strength(1), 4);
                Check.due("pause(0)", x.pause(0), 1);
                Check.due("pause(1)", x.pause(1), 2);
            }
            x.tick();
        }
    }

    private static void promises6To8AreRolledBack() {
        RollbackGame x = new RollbackGame();
        Check.ticks(x, 3);
        x.arrive(0, 0, 2);
        Check.due("position(0) by guesses", x.position(0), 5);
        x.arrive(1, 2, 3);
        Check.due("pause(1)", x.pause(1), 2);
        Check.due("strength(0) out of reach", x.strength(0), 5);
        x.arrive(1, 1, 1);
        Check.due("position(1)", x.position(1), 6);
        Check.due("strength(0) in reach", x.strength(0), 4);
        x.arrive(0, 1, 1);
        Check.due("position(0) put right", x.position(0), 1);
        Check.due("strength(0) put right", x.strength(0), 5);
        // A move beyond the frames played does not show there.
        x.arrive(0, 3, 3);
        Check.due("pause(0)", x.pause(0), 0);
        x.tick();
        Check.due("pause(0) after its frame", x.pause(0), 2);
    }

    private static void promises6To8Refuse() {
        RollbackGame x = new RollbackGame();
        for (int ticks = 0; ticks <= 40; ticks += 40) {
            for (int p : NO_PLAYERS) {
                Check.due("position(" + p + ")", x.position(p), BAD);
                Check.due("strength(" + p + ")", x.strength(p), BAD);
                Check.due("pause(" + p + ")", x.pause(p), BAD);
            }
            Check.ticks(x, 40);
        }
    }

    private static void promise9Shown() {
        RollbackGame x = Check.game("rrs", "ll.s.");
        Check.due("shown(0)", x.shown(0), 5572);
        Check.due("shown(1)", x.shown(1), 5563);
        Check.due("shown(2)", x.shown(2), 5554);
        Check.due("shown(3)", x.shown(3), 24554);
        Check.due("shown(4)", x.shown(4), 214454);
        Check.due("shown(5)", x.shown(5), 104454);
        Check.due("shown(6)", x.shown(6), 4454);
        Check.due("shown(40)", x.shown(40), 4454);
        x.arrive(0, 39, 3);
        Check.due("shown(39)", x.shown(39), 4454);
        Check.due("shown(40) with a strike in frame 39", x.shown(40), 23454);
        for (int n : NO_COUNTS) {
            Check.due("shown(" + n + ")", x.shown(n), BAD);
        }
    }

    private static void promise10Move() {
        RollbackGame x = new RollbackGame();
        x.arrive(0, 5, 2);
        x.arrive(0, 9, 3);
        x.arrive(0, 7, 1);
        x.arrive(1, 6, 1);
        int[] moves0 = {0, 0, 0, 0, 0, 2, 2, 1, 1, 3, 0, 0};
        int[] moves1 = {0, 0, 0, 0, 0, 0, 1, 1, 1, 1, 1, 1};
        for (int frame = 0; frame < 12; frame++) {
            Check.due("move(0, " + frame + ")", x.move(0, frame), moves0[frame]);
            Check.due("move(1, " + frame + ")", x.move(1, frame), moves1[frame]);
        }
        Check.due("move(0, 39) after a strike", x.move(0, 39), 0);
        Check.due("move(1, 39)", x.move(1, 39), 1);
        x.arrive(0, 8, 0);
        Check.due("move(0, 8)", x.move(0, 8), 0);
        x.arrive(1, 39, 3);
        Check.due("move(1, 39) arrived", x.move(1, 39), 3);
        // A pause or a fight that is over does not change which move is used.
        RollbackGame over = Check.game(WINNING + "r", LOSING + "l");
        Check.due("move(0, 15)", over.move(0, 15), 2);
        Check.due("move(0, 20)", over.move(0, 20), 2);
        Check.due("move(1, 20)", over.move(1, 20), 1);
        Check.due("move(0, 1) in a pause", Check.game("sl", "").move(0, 1), 1);
        for (int p : NO_PLAYERS) {
            Check.due("move(" + p + ", 0)", x.move(p, 0), BAD);
            Check.due("move(" + p + ", 39)", x.move(p, 39), BAD);
        }
        for (int frame : NO_FRAMES) {
            Check.due("move(0, " + frame + ")", x.move(0, frame), BAD);
            Check.due("move(1, " + frame + ")", x.move(1, frame), BAD);
        }
    }

    private static void promise11Missing() {
        RollbackGame x = new RollbackGame();
        x.arrive(0, 1, 0);
        Check.due("missing(0)", x.missing(0), 0);
        x.arrive(0, 0, 3);
        Check.due("missing(0)", x.missing(0), 2);
        Check.due("missing(1)", x.missing(1), 0);
        Check.ticks(x, 10);
        Check.due("missing(0) after ticks", x.missing(0), 2);
        for (int frame = 2; frame < 39; frame++) {
            x.arrive(0, frame, 0);
        }
        Check.due("missing(0) but the last", x.missing(0), 39);
        x.arrive(0, 39, 0);
        Check.due("missing(0) with all", x.missing(0), NONE);
        for (int frame = 39; frame > 0; frame--) {
            x.arrive(1, frame, 0);
        }
        Check.due("missing(1) but the first", x.missing(1), 0);
        x.arrive(1, 0, 0);
        Check.due("missing(1) with all", x.missing(1), NONE);
        for (int p : NO_PLAYERS) {
            Check.due("missing(" + p + ")", x.missing(p), BAD);
        }
    }

    private static void promise12Winner() {
        RollbackGame first = Check.game(WINNING, LOSING);
        Check.due("winner(0)", first.winner(0), NONE);
        Check.due("winner(14)", first.winner(14), NONE);
        Check.due("winner(15)", first.winner(15), 0);
        Check.due("winner(40)", first.winner(40), 0);
        RollbackGame second = Check.game("rr.............", "lls..s..s..s..s");
        Check.due("winner(14)", second.winner(14), NONE);
        Check.due("winner(15)", second.winner(15), 1);
        Check.due("winner(40)", second.winner(40), 1);
        RollbackGame both = Check.game("rrs..s..s..s..s", "lls..s..s..s..s");
        Check.due("winner(14)", both.winner(14), NONE);
        Check.due("winner(15)", both.winner(15), 2);
        Check.due("winner(40)", both.winner(40), 2);
        Check.due("winner(40) without a fight", Check.game("rrrr", "llll").winner(40), NONE);
        for (int n : NO_COUNTS) {
            Check.due("winner(" + n + ")", first.winner(n), BAD);
            Check.due("winner(" + n + ") of a new object", new RollbackGame().winner(n), BAD);
        }
    }

    private static void promise13OverAfter() {
        Check.due("overAfter() won by 0", Check.game(WINNING, LOSING).overAfter(), 15);
        Check.due("overAfter() won by 1", Check.game("rr.............", "lls..s..s..s..s").overAfter(), 15);
        Check.due("overAfter() won by none", Check.game("rrs..s..s..s..s", "lls..s..s..s..s").overAfter(), 15);
        Check.due("overAfter() with four hits", Check.game("rrs..s..s..s", "ll..........").overAfter(), NONE);
        // The last frame of all still counts.
        RollbackGame x = Check.game("rrs..s..s..s..", "ll............");
        x.arrive(0, 39, 3);
        Check.due("overAfter() at the end", x.overAfter(), 40);
        Check.due("winner(39)", x.winner(39), NONE);
        Check.due("winner(40)", x.winner(40), 0);
        Check.due("played()", x.played(), 0);
        x.arrive(0, 20, 3);
        Check.due("overAfter() put right", x.overAfter(), 21);
    }

    private static void promise14Settled() {
        RollbackGame x = Check.game("r.l", "l.");
        Check.due("settled() before any tick", x.settled(), true);
        Check.ticks(x, 1);
        Check.due("settled() with more sure than played", x.settled(), true);
        Check.ticks(x, 1);
        Check.due("settled() with as many sure as played", x.settled(), true);
        Check.ticks(x, 1);
        Check.due("settled() with fewer sure than played", x.settled(), false);
        x.arrive(1, 3, 0);
        Check.due("settled() with a break", x.settled(), false);
        x.arrive(1, 2, 0);
        Check.due("settled() when the move has come", x.settled(), true);
        RollbackGame all = Check.game(".".repeat(40), ".".repeat(39));
        Check.ticks(all, 40);
        Check.due("settled() but one", all.settled(), false);
        all.arrive(1, 39, 2);
        Check.due("settled() with all", all.settled(), true);
    }

    private static void promise14SettledByTheFight() {
        RollbackGame x = Check.game(WINNING, LOSING);
        Check.ticks(x, 40);
        Check.due("settled() with the fight over as is sure", x.settled(), true);
        x.arrive(0, 30, 3);
        Check.due("settled() with later moves", x.settled(), true);
        // Over as shown, but frame 14 of player 1 is only guessed.
        RollbackGame y = Check.game(WINNING, LOSING.substring(0, 14));
        Check.ticks(y, 15);
        Check.due("overAfter()", y.overAfter(), 15);
        Check.due("settled() with the fight over by a guess", y.settled(), false);
        y.arrive(1, 14, 2);
        Check.due("settled() with the last frame sure", y.settled(), true);
        Check.due("overAfter() with player 1 gone", y.overAfter(), NONE);
        y.tick();
        Check.due("settled() with the fight not over", y.settled(), false);
    }
}
