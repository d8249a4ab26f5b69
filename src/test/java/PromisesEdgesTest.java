import java.util.function.ToIntFunction;

/** The sentences of the promises that name a boundary case: one method for each, the sentence told in it. */
public final class PromisesEdgesTest {
    private static final int BAD = RollbackGame.BAD;
    private static final int NONE = RollbackGame.NONE;
    private static final int START = 5572;

    // The nearest ones too small and too large, the ends of int, and numbers that a cut to fewer bits, or twice
    // the number wrapping around, would turn into good ones.
    private static final int[] NO_PLAYERS = {-1, 2, 3, 10, 256, 257, 65536, 65537, 1 << 30,
        Integer.MIN_VALUE, Integer.MIN_VALUE + 1, Integer.MAX_VALUE};
    private static final int[] NO_FRAMES = {-1, 40, -2, 41, 79, 80, 256, 261, 65536, 65541, 1 << 30,
        Integer.MIN_VALUE, Integer.MIN_VALUE + 5, Integer.MAX_VALUE};
    private static final int[] NO_MOVES = {-1, 4, -2, 5, 7, 256, 257, 65536, 65537,
        Integer.MIN_VALUE, Integer.MIN_VALUE + 1, Integer.MAX_VALUE};
    private static final int[] NO_COUNTS = {-1, 41, -2, 42, 256, 65536, 1 << 30,
        Integer.MIN_VALUE, Integer.MIN_VALUE + 5, Integer.MAX_VALUE};

    /** Player 0 wins in frame 14, the frames 0 .. 14 being sure. */
    private static final String WINNING = "rrs..s..s..s..s";
    private static final String LOSING = "ll.............";

    public static void main(String[] args) {
        newObjectHasNoMoves();
        newObjectHasPlayedNothing();
        arriveRefusesPlayers();
        arriveRefusesFrames();
        arriveRefusesMoves();
        arriveRefusesWhatHasArrived();
        arriveRefusesWhenAllHaveArrived();
        arriveTakesTheOutermost();
        arriveCountsNothingBeforeTheFirstTick();
        arriveCountsFromOne();
        arriveCountsUpToTheFramesPlayed();
        arriveCountsNothingWhenTheGuessWasRight();
        arriveCountsOnlyWhatHasChanged();
        arriveCountsEveryPartOfTheField();
        tickRefusesAfterForty();
        tickCountsToForty();
        tickChangesNothingElse();
        playedGoesFromZeroToForty();
        sureGoesFromZeroToForty();
        sureEndsAtABreak();
        positionAtTheEnds();
        positionRefuses();
        strengthAtTheEnds();
        strengthRefuses();
        pauseAtTheEnds();
        pauseRefuses();
        shownAtTheEnds();
        shownRefuses();
        shownHasEveryPart();
        moveAtTheEnds();
        moveRefusesPlayers();
        moveRefusesFrames();
        missingGoesFromZero();
        missingIsNoneWhenAllHaveArrived();
        missingRefuses();
        winnerIsTheOneLeft();
        winnerIsTwoWhenBothAreOut();
        winnerIsNoneBeforeTheEnd();
        winnerAtTheEnds();
        winnerRefuses();
        overAfterIsTheLeast();
        overAfterIsNoneWhenNotAfterForty();
        settledWithAllPlayedSure();
        settledWithTheFightOver();
        settledNotByAGuess();
        settledCannotChange();
        Check.end();
    }

    /** A game under way: moves arrived, a gap, and frames played, some sure and some not. */
    private static RollbackGame begun() {
        RollbackGame x = Check.game("rr.s", "ll");
        x.arrive(1, 3, 3);
        Check.ticks(x, 7);
        return x;
    }

    /** The call is refused, and the object goes on as a twin does on which it was not called. */
    private static void refused(String name, ToIntFunction<RollbackGame> call) {
        RollbackGame x = begun();
        Check.due(name, call.applyAsInt(x), BAD);
        boolean same = Check.answersToTheEnd(x).equals(Check.answersToTheEnd(begun()));
        Check.due(name + " changes nothing", same, true);
    }

    private static void newObjectHasNoMoves() {
        Check.sentence("1: No moves have arrived");
        for (int p = 0; p < 2; p++) {
            RollbackGame x = new RollbackGame();
            Check.due("missing(" + p + ")", x.missing(p), 0);
            for (int frame = 0; frame < 40; frame++) {
                Check.due("move(" + p + ", " + frame + ")", x.move(p, frame), 0);
                Check.due("arrive(" + p + ", " + frame + ", 0)", x.arrive(p, frame, 0), 0);
            }
        }
        Check.due("sure()", new RollbackGame().sure(), 0);
    }

    private static void newObjectHasPlayedNothing() {
        Check.sentence("1: no frame has been played");
        RollbackGame x = new RollbackGame();
        Check.due("played()", x.played(), 0);
        Check.due("settled()", x.settled(), true);
        Check.due("tick()", x.tick(), 1);
    }

    private static void arriveRefusesPlayers() {
        Check.sentence("2: BAD, changing nothing, when p is not 0 or 1");
        for (int p : NO_PLAYERS) {
            refused("arrive(" + p + ", 5, 1)", x -> x.arrive(p, 5, 1));
            refused("arrive(" + p + ", 0, 3)", x -> x.arrive(p, 0, 3));
            refused("arrive(" + p + ", 39, 3)", x -> x.arrive(p, 39, 3));
        }
    }

    private static void arriveRefusesFrames() {
        Check.sentence("2: BAD, changing nothing, when frame is not 0 .. 39");
        for (int frame : NO_FRAMES) {
            refused("arrive(0, " + frame + ", 3)", x -> x.arrive(0, frame, 3));
            refused("arrive(1, " + frame + ", 3)", x -> x.arrive(1, frame, 3));
        }
    }

    private static void arriveRefusesMoves() {
        Check.sentence("2: BAD, changing nothing, when move is not 0 .. 3");
        for (int move : NO_MOVES) {
            refused("arrive(0, 5, " + move + ")", x -> x.arrive(0, 5, move));
            refused("arrive(1, 2, " + move + ")", x -> x.arrive(1, 2, move));
            // Wrong in more than one way.
            refused("arrive(2, 40, " + move + ")", x -> x.arrive(2, 40, move));
            refused("arrive(0, 0, " + move + ") again", x -> x.arrive(0, 0, move));
        }
    }

    private static void arriveRefusesWhatHasArrived() {
        Check.sentence("2: BAD, changing nothing, when that move has arrived");
        for (int move = 0; move < 4; move++) {
            int m = move;
            refused("arrive(0, 0, " + m + ") again", x -> x.arrive(0, 0, m));
            refused("arrive(0, 2, " + m + ") again", x -> x.arrive(0, 2, m));
            refused("arrive(0, 3, " + m + ") again", x -> x.arrive(0, 3, m));
            refused("arrive(1, 3, " + m + ") again", x -> x.arrive(1, 3, m));
        }
    }

    private static void arriveRefusesWhenAllHaveArrived() {
        Check.sentence("2: BAD, changing nothing, when that move has arrived: all have, and the fight is over");
        String moves0 = WINNING + "l".repeat(25);
        String moves1 = LOSING + "r".repeat(25);
        RollbackGame x = Check.game(moves0, moves1);
        Check.ticks(x, 40);
        for (int slot = 0; slot < 80; slot++) {
            int p = slot % 2;
            int frame = slot / 2;
            Check.due("arrive(" + p + ", " + frame + ", 3) again", x.arrive(p, frame, 3), BAD);
        }
        RollbackGame twin = Check.game(moves0, moves1);
        Check.ticks(twin, 40);
        Check.due("what is refused changes nothing", Check.answers(x).equals(Check.answers(twin)), true);
    }

    private static void arriveTakesTheOutermost() {
        Check.sentence("2: p 0 or 1, frame 0 .. 39 and move 0 .. 3 are taken");
        for (int p = 0; p < 2; p++) {
            for (int frame = 0; frame < 40; frame += 39) {
                for (int move = 0; move < 4; move++) {
                    RollbackGame x = new RollbackGame();
                    Check.ticks(x, frame + 1);
                    String call = "arrive(" + p + ", " + frame + ", " + move + ")";
                    Check.due(call, x.arrive(p, frame, move), move == 0 ? 0 : 1);
                    Check.due("move(" + p + ", " + frame + ")", x.move(p, frame), move);
                }
            }
        }
    }

    private static void arriveCountsNothingBeforeTheFirstTick() {
        Check.sentence("2: the number of the frames played so far: none");
        RollbackGame x = new RollbackGame();
        Check.due("arrive(0, 0, 2)", x.arrive(0, 0, 2), 0);
        Check.due("arrive(1, 0, 3)", x.arrive(1, 0, 3), 0);
        Check.due("arrive(0, 39, 3)", x.arrive(0, 39, 3), 0);
    }

    private static void arriveCountsFromOne() {
        Check.sentence("2: after how many n, from 1");
        RollbackGame x = new RollbackGame();
        x.tick();
        Check.due("arrive(0, 0, 2) after 1 frame", x.arrive(0, 0, 2), 1);
        Check.due("arrive(1, 0, 3) after 1 frame", x.arrive(1, 0, 3), 1);
        RollbackGame all = new RollbackGame();
        Check.ticks(all, 40);
        Check.due("arrive(0, 0, 1) after 40 frames", all.arrive(0, 0, 1), 40);
        // Both players are shown differently, yet each n counts once.
        RollbackGame both = new RollbackGame();
        Check.send(both, 1, 0, "llll");
        Check.ticks(both, 4);
        Check.due("arrive(0, 0, 2)", both.arrive(0, 0, 2), 4);
        Check.due("position(0)", both.position(0), 4);
        Check.due("position(1)", both.position(1), 5);
    }

    private static void arriveCountsUpToTheFramesPlayed() {
        Check.sentence("2: after how many n, to the frames played");
        for (int played = 1; played < 40; played++) {
            RollbackGame x = new RollbackGame();
            Check.ticks(x, played);
            Check.due("arrive(0, played, 3), " + played + " played", x.arrive(0, played, 3), 0);
            Check.due("arrive(1, played - 1, 3), " + played + " played", x.arrive(1, played - 1, 3), 1);
        }
        RollbackGame x = new RollbackGame();
        Check.ticks(x, 40);
        Check.due("arrive(0, 39, 3), 40 played", x.arrive(0, 39, 3), 1);
        Check.due("arrive(1, 38, 2), 40 played", x.arrive(1, 38, 2), 2);
    }

    private static void arriveCountsNothingWhenTheGuessWasRight() {
        Check.sentence("2: shown differently: not when the guess was right");
        RollbackGame x = new RollbackGame();
        Check.ticks(x, 40);
        Check.due("arrive(0, 0, 0)", x.arrive(0, 0, 0), 0);
        Check.due("arrive(0, 5, 1)", x.arrive(0, 5, 1), 35);
        Check.due("arrive(0, 6, 1)", x.arrive(0, 6, 1), 0);
        Check.due("arrive(0, 39, 1)", x.arrive(0, 39, 1), 0);
        Check.due("arrive(1, 20, 3)", x.arrive(1, 20, 3), 2);
        Check.due("arrive(1, 23, 0)", x.arrive(1, 23, 0), 0);
    }

    private static void arriveCountsOnlyWhatHasChanged() {
        Check.sentence("2: shown differently: not where it comes out the same");
        RollbackGame x = Check.game("l", "r");
        Check.ticks(x, 40);
        Check.due("arrive(0, 10, 1) at the wall", x.arrive(0, 10, 1), 0);
        Check.due("arrive(0, 9, 0) at the wall", x.arrive(0, 9, 0), 0);
        // A step before the wall until frame 10, which leads to it again.
        Check.due("arrive(0, 1, 0)", x.arrive(0, 1, 0), 9);
        Check.due("arrive(0, 2, 1)", x.arrive(0, 2, 1), 8);
        Check.due("arrive(1, 20, 3)", x.arrive(1, 20, 3), 2);
        Check.due("arrive(1, 23, 0)", x.arrive(1, 23, 0), 0);
        Check.due("arrive(1, 21, 1) in a pause", x.arrive(1, 21, 1), 0);
        Check.due("arrive(1, 22, 3) in a pause", x.arrive(1, 22, 3), 0);
        RollbackGame over = Check.game(WINNING, LOSING);
        Check.ticks(over, 40);
        Check.due("arrive(0, 15, 1) after the fight", over.arrive(0, 15, 1), 0);
        Check.due("arrive(1, 39, 3) after the fight", over.arrive(1, 39, 3), 0);
    }

    private static void arriveCountsEveryPartOfTheField() {
        Check.sentence("2: the field shown has changed: place, strength or pause, of either");
        for (int p = 0; p < 2; p++) {
            for (int move = 1; move < 4; move++) {
                RollbackGame x = new RollbackGame();
                Check.ticks(x, 2);
                String call = "arrive(" + p + ", 1, " + move + ")";
                Check.due(call + " for place or pause", x.arrive(p, 1, move), 1);
            }
            // When the pause is past, only the lost point is left of a blow.
            RollbackGame x = Check.game("rr.", "ll.");
            Check.ticks(x, 10);
            Check.due("arrive(" + p + ", 3, 3) for strength", x.arrive(p, 3, 3), 7);
        }
    }

    private static void tickRefusesAfterForty() {
        Check.sentence("3: BAD, changing nothing, when 40 have been");
        RollbackGame x = begun();
        RollbackGame twin = begun();
        Check.ticks(x, 33);
        Check.ticks(twin, 33);
        Check.due("tick() after 40", x.tick(), BAD);
        Check.due("tick() after 40 again", x.tick(), BAD);
        boolean same = Check.answersToTheEnd(x).equals(Check.answersToTheEnd(twin));
        Check.due("tick() after 40 changes nothing", same, true);
    }

    private static void tickCountsToForty() {
        Check.sentence("3: Plays one more frame, and answers how many have been played then");
        RollbackGame x = new RollbackGame();
        RollbackGame over = Check.game(WINNING, LOSING);
        for (int count = 1; count <= 40; count++) {
            Check.due("tick()", x.tick(), count);
            Check.due("tick(), the fight being over after 15", over.tick(), count);
        }
    }

    private static void tickChangesNothingElse() {
        Check.sentence("3: Playing changes only what position, strength and pause speak of");
        RollbackGame x = begun();
        String lasting = Check.lasting(begun());
        x.tick();
        Check.due("tick() leaves the rest", Check.lasting(x).equals(lasting), true);
        Check.ticks(x, 40);
        Check.due("tick() up to 40 and over leaves the rest", Check.lasting(x).equals(lasting), true);
    }

    private static void playedGoesFromZeroToForty() {
        Check.sentence("4: The number of frames played");
        RollbackGame x = new RollbackGame();
        Check.due("played() of a new object", x.played(), 0);
        Check.send(x, 0, 0, ".".repeat(40));
        Check.send(x, 1, 0, ".".repeat(40));
        Check.due("played() with all moves arrived", x.played(), 0);
        Check.ticks(x, 39);
        Check.due("played() after 39", x.played(), 39);
        Check.ticks(x, 1);
        Check.due("played() after 40", x.played(), 40);
        Check.ticks(x, 1);
        Check.due("played() after a tick refused", x.played(), 40);
    }

    private static void sureGoesFromZeroToForty() {
        Check.sentence("5: The number of frames that are sure");
        RollbackGame x = new RollbackGame();
        for (int frame = 0; frame < 40; frame++) {
            Check.due("sure()", x.sure(), frame);
            x.arrive(frame % 2, frame, 3);
            Check.due("sure() with one of both", x.sure(), frame);
            x.arrive(1 - frame % 2, frame, 3);
        }
        Check.due("sure() with all", x.sure(), 40);
        Check.ticks(x, 41);
        Check.due("sure() after 40 ticks", x.sure(), 40);
    }

    private static void sureEndsAtABreak() {
        Check.sentence("5: from frame 0 on without a break");
        RollbackGame x = new RollbackGame();
        for (int frame = 39; frame > 0; frame--) {
            x.arrive(0, frame, 0);
            x.arrive(1, frame, 0);
            Check.due("sure() from frame " + frame + " on", x.sure(), 0);
        }
        x.arrive(0, 0, 0);
        Check.due("sure() without frame 0 of player 1", x.sure(), 0);
        x.arrive(1, 0, 0);
        Check.due("sure() with frame 0", x.sure(), 40);
    }

    private static void positionAtTheEnds() {
        Check.sentence("6: The place of player p after the frames played: none, and all");
        RollbackGame x = Check.game("l", "r");
        Check.due("position(0) with none played", x.position(0), 2);
        Check.due("position(1) with none played", x.position(1), 7);
        Check.send(x, 0, 39, "r");
        Check.send(x, 1, 39, "l");
        Check.ticks(x, 39);
        Check.due("position(0) after 39", x.position(0), 0);
        Check.due("position(1) after 39", x.position(1), 9);
        Check.ticks(x, 1);
        Check.due("position(0) after 40", x.position(0), 1);
        Check.due("position(1) after 40", x.position(1), 8);
        Check.ticks(x, 1);
        Check.due("position(0) after a tick refused", x.position(0), 1);
    }

    private static void positionRefuses() {
        Check.sentence("6: BAD when p is not 0 or 1");
        for (int p : NO_PLAYERS) {
            refused("position(" + p + ")", x -> x.position(p));
            Check.due("position(" + p + ") of a new object", new RollbackGame().position(p), BAD);
        }
        RollbackGame all = new RollbackGame();
        Check.ticks(all, 40);
        Check.due("position(-1) after 40", all.position(-1), BAD);
        Check.due("position(2) after 40", all.position(2), BAD);
    }

    private static void strengthAtTheEnds() {
        Check.sentence("7: The points of player p there: none played, and all; 5 and 0");
        RollbackGame x = Check.game("rrs..s..s..s...", LOSING);
        x.arrive(0, 39, 3);
        Check.due("strength(0) with none played", x.strength(0), 5);
        Check.due("strength(1) with none played", x.strength(1), 5);
        Check.ticks(x, 39);
        Check.due("strength(1) after 39", x.strength(1), 1);
        Check.ticks(x, 1);
        Check.due("strength(0) after 40", x.strength(0), 5);
        Check.due("strength(1) after 40", x.strength(1), 0);
        RollbackGame y = Check.game("rr", "lls..s..s..s..s");
        Check.send(y, 0, 2, ".");
        Check.ticks(y, 15);
        Check.due("strength(0) of the loser", y.strength(0), 0);
        Check.due("strength(1) of the winner", y.strength(1), 5);
    }

    private static void strengthRefuses() {
        Check.sentence("7: BAD when p is not 0 or 1");
        for (int p : NO_PLAYERS) {
            refused("strength(" + p + ")", x -> x.strength(p));
            Check.due("strength(" + p + ") of a new object", new RollbackGame().strength(p), BAD);
        }
        RollbackGame all = new RollbackGame();
        Check.ticks(all, 40);
        Check.due("strength(-1) after 40", all.strength(-1), BAD);
        Check.due("strength(2) after 40", all.strength(2), BAD);
    }

    private static void pauseAtTheEnds() {
        Check.sentence("8: The pause of player p there: none played, and all; 0 to 2");
        RollbackGame x = Check.game("s", ".s");
        Check.send(x, 0, 39, "s");
        Check.send(x, 1, 38, "s");
        int[] pauses0 = {0, 2, 1, 0, 0};
        int[] pauses1 = {0, 0, 2, 1, 0};
        for (int n = 0; n < 5; n++) {
            Check.due("pause(0) after " + n, x.pause(0), pauses0[n]);
            Check.due("pause(1) after " + n, x.pause(1), pauses1[n]);
            x.tick();
        }
        Check.ticks(x, 35);
        Check.due("pause(0) after 40", x.pause(0), 2);
        Check.due("pause(1) after 40", x.pause(1), 1);
    }

    private static void pauseRefuses() {
        Check.sentence("8: BAD when p is not 0 or 1");
        for (int p : NO_PLAYERS) {
            refused("pause(" + p + ")", x -> x.pause(p));
            Check.due("pause(" + p + ") of a new object", new RollbackGame().pause(p), BAD);
        }
        RollbackGame all = new RollbackGame();
        Check.ticks(all, 40);
        Check.due("pause(-1) after 40", all.pause(-1), BAD);
        Check.due("pause(2) after 40", all.pause(2), BAD);
    }

    private static void shownAtTheEnds() {
        Check.sentence("9: What is shown after n frames: 0 and 40, whatever has been played");
        RollbackGame x = Check.game("r", "s");
        x.arrive(1, 39, 3);
        for (int played = 0; played <= 40; played++) {
            Check.due("shown(0) with " + played + " played", x.shown(0), START);
            Check.due("shown(1) with " + played + " played", x.shown(1), 205573);
            Check.due("shown(40) with " + played + " played", x.shown(40), 205476);
            x.tick();
        }
    }

    private static void shownRefuses() {
        Check.sentence("9: BAD when n is not 0 .. 40");
        for (int n : NO_COUNTS) {
            refused("shown(" + n + ")", x -> x.shown(n));
            Check.due("shown(" + n + ") of a new object", new RollbackGame().shown(n), BAD);
        }
    }

    private static void shownHasEveryPart() {
        Check.sentence("9: place 0 + 10 * place 1 + 100 * strength 0 + ..., least and greatest");
        // Places 0 and 9, then both pauses at 2.
        RollbackGame apart = Check.game("lls", "rrs");
        Check.due("shown(2)", apart.shown(2), 5590);
        Check.due("shown(3)", apart.shown(3), 225590);
        // No strength left to either.
        Check.due("shown(40)", Check.game("rrs..s..s..s..s", "lls..s..s..s..s").shown(40), 220054);
        Check.due("shown(40)", Check.game(WINNING, LOSING).shown(40), 20554);
        Check.due("shown(40)", Check.game("rr.............", "lls..s..s..s..s").shown(40), 205054);
    }

    private static void moveAtTheEnds() {
        Check.sentence("10: The move of player p for a frame: 0 and 39");
        for (int p = 0; p < 2; p++) {
            for (int move = 0; move < 4; move++) {
                RollbackGame x = new RollbackGame();
                x.arrive(p, 0, move);
                int guess = move == 3 ? 0 : move;
                Check.due("move(" + p + ", 0)", x.move(p, 0), move);
                Check.due("move(" + p + ", 39) guessed", x.move(p, 39), guess);
                x.arrive(p, 39, 3);
                Check.due("move(" + p + ", 39)", x.move(p, 39), 3);
                Check.due("move(" + p + ", 38) guessed", x.move(p, 38), guess);
            }
        }
    }

    private static void moveRefusesPlayers() {
        Check.sentence("10: BAD when p is not 0 or 1");
        for (int p : NO_PLAYERS) {
            refused("move(" + p + ", 0)", x -> x.move(p, 0));
            refused("move(" + p + ", 3)", x -> x.move(p, 3));
            refused("move(" + p + ", 39)", x -> x.move(p, 39));
            refused("move(" + p + ", 40)", x -> x.move(p, 40));
        }
    }

    private static void moveRefusesFrames() {
        Check.sentence("10: BAD when frame is not 0 .. 39");
        for (int frame : NO_FRAMES) {
            refused("move(0, " + frame + ")", x -> x.move(0, frame));
            refused("move(1, " + frame + ")", x -> x.move(1, frame));
        }
    }

    private static void missingGoesFromZero() {
        Check.sentence("11: The least frame whose move of player p has not arrived");
        for (int p = 0; p < 2; p++) {
            RollbackGame x = new RollbackGame();
            Check.send(x, 1 - p, 0, ".".repeat(40));
            for (int frame = 0; frame < 40; frame++) {
                Check.due("missing(" + p + ")", x.missing(p), frame);
                x.arrive(p, frame, 0);
            }
            RollbackGame y = new RollbackGame();
            for (int frame = 39; frame > 0; frame--) {
                y.arrive(p, frame, 0);
                Check.due("missing(" + p + ") from " + frame + " on arrived", y.missing(p), 0);
            }
            // With two gaps it is the lesser.
            RollbackGame z = new RollbackGame();
            Check.send(z, p, 0, "......");
            Check.send(z, p, 7, "...");
            Check.due("missing(" + p + ") with gaps", z.missing(p), 6);
            z.arrive(p, 6, 0);
            Check.due("missing(" + p + ") with the first filled", z.missing(p), 10);
        }
    }

    private static void missingIsNoneWhenAllHaveArrived() {
        Check.sentence("11: NONE when all have");
        for (int p = 0; p < 2; p++) {
            RollbackGame x = new RollbackGame();
            Check.send(x, p, 0, "s".repeat(39));
            Check.due("missing(" + p + ") but the last", x.missing(p), 39);
            x.arrive(p, 39, 3);
            Check.due("missing(" + p + ")", x.missing(p), NONE);
            Check.due("missing(" + (1 - p) + ")", x.missing(1 - p), 0);
        }
    }

    private static void missingRefuses() {
        Check.sentence("11: BAD when p is not 0 or 1");
        RollbackGame all = Check.game(".".repeat(40), ".".repeat(40));
        for (int p : NO_PLAYERS) {
            refused("missing(" + p + ")", x -> x.missing(p));
            Check.due("missing(" + p + ") with all arrived", all.missing(p), BAD);
        }
    }

    private static void winnerIsTheOneLeft() {
        Check.sentence("12: 0 or 1 when only the other one is out");
        Check.due("winner(15), 1 out", Check.game(WINNING, LOSING).winner(15), 0);
        Check.due("winner(15), 0 out", Check.game("rr.............", "lls..s..s..s..s").winner(15), 1);
        // The one left may have a single point.
        Check.due("winner(15), 0 with 1 point", Check.game(WINNING, "ll.s..s..s..s..").winner(15), 0);
        Check.due("winner(15), 1 with 1 point", Check.game("rr.s..s..s..s..", "lls..s..s..s..s").winner(15), 1);
    }

    private static void winnerIsTwoWhenBothAreOut() {
        Check.sentence("12: 2 when both are");
        RollbackGame x = Check.game("rrs..s..s..s..s", "lls..s..s..s..s");
        Check.due("winner(15)", x.winner(15), 2);
        Check.due("winner(40)", x.winner(40), 2);
    }

    private static void winnerIsNoneBeforeTheEnd() {
        Check.sentence("12: NONE when the fight is not over");
        RollbackGame x = Check.game(WINNING, LOSING);
        for (int n = 0; n < 15; n++) {
            Check.due("winner(" + n + ")", x.winner(n), NONE);
        }
        Check.due("winner(15)", x.winner(15), 0);
        Check.due("winner(40) of a new object", new RollbackGame().winner(40), NONE);
    }

    private static void winnerAtTheEnds() {
        Check.sentence("12: after n frames as shown: 0 and 40, whatever has been played");
        RollbackGame x = Check.game("rrs..s..s..s...", LOSING);
        x.arrive(0, 39, 3);
        for (int played = 0; played <= 40; played += 40) {
            Check.due("winner(0) with " + played + " played", x.winner(0), NONE);
            Check.due("winner(39) with " + played + " played", x.winner(39), NONE);
            Check.due("winner(40) with " + played + " played", x.winner(40), 0);
            Check.ticks(x, 40);
        }
    }

    private static void winnerRefuses() {
        Check.sentence("12: BAD when n is not 0 .. 40");
        RollbackGame over = Check.game(WINNING, LOSING);
        for (int n : NO_COUNTS) {
            refused("winner(" + n + ")", x -> x.winner(n));
            Check.due("winner(" + n + ") of a new object", new RollbackGame().winner(n), BAD);
            Check.due("winner(" + n + ") after a fight", over.winner(n), BAD);
        }
    }

    private static void overAfterIsTheLeast() {
        Check.sentence("13: The least n for which the fight is over as shown after n frames");
        RollbackGame x = Check.game(WINNING, LOSING);
        Check.due("overAfter() with none played", x.overAfter(), 15);
        Check.ticks(x, 14);
        Check.due("overAfter() with one less played", x.overAfter(), 15);
        Check.ticks(x, 26);
        Check.due("overAfter() with all played", x.overAfter(), 15);
        for (int last = 14; last < 40; last++) {
            RollbackGame y = Check.game("rrs..s..s..s..", LOSING);
            y.arrive(0, last, 3);
            Check.due("overAfter() with the last blow in frame " + last, y.overAfter(), last + 1);
        }
    }

    private static void overAfterIsNoneWhenNotAfterForty() {
        Check.sentence("13: NONE when it is not after 40");
        RollbackGame x = Check.game("rrs..s..s..s..", LOSING);
        Check.due("overAfter() with one point left", x.overAfter(), NONE);
        Check.ticks(x, 40);
        Check.due("overAfter() with all played", x.overAfter(), NONE);
        x.arrive(0, 39, 3);
        Check.due("overAfter() with a blow in frame 39", x.overAfter(), 40);
    }

    private static void settledWithAllPlayedSure() {
        Check.sentence("14: Whether all frames played are sure");
        for (int sure = 0; sure < 40; sure++) {
            RollbackGame x = Check.game(".".repeat(sure), ".".repeat(sure));
            Check.due("settled() with none played, " + sure + " sure", x.settled(), true);
            Check.ticks(x, sure);
            Check.due("settled() with all played sure: " + sure, x.settled(), true);
            x.tick();
            Check.due("settled() with one not sure after " + sure, x.settled(), false);
            x.arrive(sure % 2, sure, 0);
            Check.due("settled() with one of both moves", x.settled(), false);
            x.arrive(1 - sure % 2, sure, 0);
            Check.due("settled() with both", x.settled(), true);
        }
    }

    private static void settledWithTheFightOver() {
        Check.sentence("14: or the fight is over as shown after sure() frames");
        RollbackGame[] overs = {Check.game(WINNING, LOSING), Check.game("rr.............", "lls..s..s..s..s"),
            Check.game("rrs..s..s..s..s", "lls..s..s..s..s")};
        for (RollbackGame x : overs) {
            for (int played = 0; played <= 40; played++) {
                Check.due("settled() with " + played + " played", x.settled(), true);
                x.tick();
            }
        }
    }

    private static void settledNotByAGuess() {
        Check.sentence("14: over as shown after sure() frames, not only after more");
        // Frame 14 is not sure: over after 15, but not after 14.
        for (int p = 0; p < 2; p++) {
            RollbackGame x = new RollbackGame();
            Check.send(x, p, 0, p == 0 ? WINNING : "lls..s..s..s..s");
            Check.send(x, 1 - p, 0, p == 0 ? "ll............" : "rr............");
            Check.ticks(x, 14);
            Check.due("settled() with 14 played", x.settled(), true);
            Check.due("overAfter()", x.overAfter(), 15);
            x.tick();
            Check.due("settled() with 15 played", x.settled(), false);
            Check.ticks(x, 25);
            Check.due("settled() with 40 played", x.settled(), false);
            x.arrive(1 - p, 14, 0);
            Check.due("settled() with frame 14 sure", x.settled(), true);
        }
        // A gap far before the end leaves all of it open.
        RollbackGame gap = Check.game(WINNING, "l");
        Check.send(gap, 1, 2, ".".repeat(38));
        Check.send(gap, 0, 15, ".".repeat(25));
        Check.ticks(gap, 40);
        Check.due("overAfter() with a gap", gap.overAfter(), 15);
        Check.due("settled() with a gap", gap.settled(), false);
    }

    private static void settledCannotChange() {
        Check.sentence("14: What is shown after the frames played can't change any more then");
        RollbackGame over = Check.game(WINNING, LOSING);
        Check.ticks(over, 40);
        RollbackGame sure = Check.game("rrs", "lls");
        Check.ticks(sure, 3);
        Check.due("settled(), over", over.settled(), true);
        Check.due("settled(), sure", sure.settled(), true);
        for (int frame = 39; frame >= 0; frame--) {
            for (int p = 0; p < 2; p++) {
                int refusedOver = frame < 15 ? BAD : 0;
                int refusedSure = frame < 3 ? BAD : 0;
                Check.due("over: arrive(" + p + ", " + frame + ", 3)", over.arrive(p, frame, 3), refusedOver);
                Check.due("sure: arrive(" + p + ", " + frame + ", 2)", sure.arrive(p, frame, 2), refusedSure);
            }
            Check.due("over: shown(40)", over.shown(40), 20554);
            Check.due("sure: shown(3)", sure.shown(3), 224454);
        }
    }
}
