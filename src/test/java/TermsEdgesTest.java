/** The sentences of 'What it is' and 'Terms' that name a boundary case: one method for each, the sentence told in it. */
public final class TermsEdgesTest {
    private static final int BAD = RollbackGame.BAD;
    private static final int NONE = RollbackGame.NONE;
    private static final int START = 5572;

    public static void main(String[] args) {
        anObjectIsGoodFor512Calls();
        framesBeginWithZero();
        theFieldEndsAtZero();
        theFieldEndsAtNine();
        atTheWallTheOtherIsInTheWay();
        bothAreReadyAtTheBeginning();
        aPauseAboveZeroHoldsBack();
        aPauseFallsByOneDownToZero();
        playerZeroWalksFirst();
        nobodyGoesWhereTheOtherStands();
        nobodyGoesWhereTheOtherRestsInAPause();
        onlyThatMomentCounts();
        everyStrikePauses();
        aStrikeReachesAtMostOnePlace();
        reachIsMeasuredAfterTheWalking();
        bothMayLoseOne();
        pointsDoNotFallBelowZero();
        onePointIsNotOut();
        noPointsAreOut();
        noLaterFrameChangesAnything();
        movesArriveInAnyOrder();
        movesArriveForAnyFrame();
        aMoveArrivesOnlyOnce();
        aFrameIsSureWithBothMoves();
        aFrameIsSureWithAllEarlierOnes();
        theGuessIsRestWithNoEarlierMove();
        theGuessIsTheGreatestEarlierMove();
        theGuessIsOfTheSamePlayer();
        theGuessIsRestAfterAStrike();
        aMoveThatHasArrivedIsNotGuessed();
        theFieldAfterNoFramesIsTheBeginning();
        theFieldAfterAllFramesHasTheLast();
        Check.end();
    }

    private static void field(RollbackGame x, int n, int want) {
        Check.due("shown(" + n + ")", x.shown(n), want);
    }

    /** The field after the last of the moves told, which are as many for both. */
    private static void after(String moves0, String moves1, int want) {
        RollbackGame x = Check.game(moves0, moves1);
        int n = moves0.length();
        Check.due("'" + moves0 + "' and '" + moves1 + "': shown(" + n + ")", x.shown(n), want);
    }

    private static void anObjectIsGoodFor512Calls() {
        Check.sentence("used for at most 512 calls");
        RollbackGame x = new RollbackGame();
        Check.ticks(x, 40);
        Check.send(x, 0, 0, ".".repeat(40));
        Check.send(x, 1, 0, ".".repeat(39));
        for (int call = 120; call <= 510; call++) {
            Check.due("call " + call + ": shown(40)", x.shown(40), START);
        }
        Check.due("call 511: arrive(1, 39, 3)", x.arrive(1, 39, 3), 1);
        Check.due("call 512: shown(40)", x.shown(40), 200000 + START);
        RollbackGame y = new RollbackGame();
        for (int call = 1; call <= 511; call++) {
            Check.due("call " + call + ": tick()", y.tick(), call <= 40 ? call : BAD);
        }
        Check.due("call 512: played()", y.played(), 40);
    }

    private static void framesBeginWithZero() {
        Check.sentence("FRAMES are numbered 0, 1, ..");
        RollbackGame x = new RollbackGame();
        x.arrive(0, 0, 1);
        x.arrive(0, 1, 0);
        field(x, 0, START);
        field(x, 1, 5571);
        field(x, 2, 5571);
        RollbackGame y = new RollbackGame();
        y.arrive(0, 1, 1);
        y.arrive(0, 2, 0);
        field(y, 1, START);
        field(y, 2, 5571);
    }

    private static void theFieldEndsAtZero() {
        Check.sentence("not beyond the field: place 0");
        RollbackGame x = Check.game("lllllr", ".");
        field(x, 1, 5571);
        field(x, 2, 5570);
        field(x, 3, 5570);
        field(x, 5, 5570);
        field(x, 6, 5571);
        // Guesses end there too.
        field(Check.game("l", "."), 40, 5570);
    }

    private static void theFieldEndsAtNine() {
        Check.sentence("not beyond the field: place 9");
        RollbackGame x = Check.game(".", "rrrrrl");
        field(x, 1, 5582);
        field(x, 2, 5592);
        field(x, 3, 5592);
        field(x, 5, 5592);
        field(x, 6, 5582);
        field(Check.game(".", "r"), 40, 5592);
    }

    private static void atTheWallTheOtherIsInTheWay() {
        Check.sentence("not beyond the field, nor to the place of the other one, at the wall");
        RollbackGame left = Check.game("l", "l");
        field(left, 8, 5510);
        field(left, 40, 5510);
        after("ll......l", "llllllll.", 5510);
        after("ll......r", "llllllll.", 5510);
        after("ll......r", "lllllllll", 5510);
        after("ll......r", "llllllllr", 5520);
        RollbackGame right = Check.game("r", "r");
        field(right, 8, 5598);
        field(right, 40, 5598);
        after("rrrrrrrr.", "rr......r", 5598);
        after("rrrrrrrr.", "rr......l", 5598);
        after("rrrrrrrrr", "rr......l", 5598);
        after("rrrrrrrrl", "rr......l", 5587);
    }

    private static void bothAreReadyAtTheBeginning() {
        Check.sentence("READY (pause 0)");
        after("l", "r", 5581);
        after("s", "s", 220000 + START);
    }

    private static void aPauseAboveZeroHoldsBack() {
        Check.sentence("a player whose pause is above 0 does nothing in this frame whatever its move");
        String all = ".lrs";
        for (int move = 0; move < 4; move++) {
            char m = all.charAt(move);
            after("s" + m, "..", 10000 + START);
            after("s." + m, "...", START);
            after("..", "s" + m, 100000 + START);
            after("...", "s." + m, START);
            // In reach of the other one too: only the first strike takes a point.
            after("rrs" + m, "ll..", 14554);
            after("rrs." + m, "ll...", 4554);
            after("rr..", "lls" + m, 105454);
            after("rr...", "lls." + m, 5454);
        }
        // With a pause of 0 the player is ready.
        after("s..l", "....", 5571);
        after("s..r", "....", 5573);
        after("s..s", "....", 20000 + START);
        after("....", "s..l", 5562);
        after("....", "s..r", 5582);
        after("....", "s..s", 200000 + START);
        // The pause of one does not hold the other back.
        after("slr", "lrr", 5582);
        after("lll", "sll", 5570);
    }

    private static void aPauseFallsByOneDownToZero() {
        Check.sentence("and its pause falls by 1");
        RollbackGame x = Check.game("s.....", ".s....");
        field(x, 1, 20000 + START);
        field(x, 2, 210000 + START);
        field(x, 3, 100000 + START);
        for (int n = 4; n <= 40; n++) {
            field(x, n, START);
        }
    }

    private static void playerZeroWalksFirst() {
        Check.sentence("player 0 before player 1");
        after("rrr", "l.l", 5565);
        after("rr.", "l.l", 5554);
        after("r.r", "lll", 5554);
        // Held back by its pause, player 0 leaves the place to player 1.
        after("rsr", "lll", 15543);
    }

    private static void nobodyGoesWhereTheOtherStands() {
        Check.sentence("a player does not go to the place where the other one is");
        after("rrrr", "....", 5576);
        after("rrrrr", ".....", 5576);
        after("....", "llll", 5532);
        after(".....", "lllll", 5532);
        after("rrr", "lll", 5554);
        // The place beside it is free.
        after("rrrrl", ".....", 5575);
        after(".....", "llllr", 5542);
    }

    private static void nobodyGoesWhereTheOtherRestsInAPause() {
        Check.sentence("a player does not go to the place where the other one is, be that one in a pause");
        after("rrs", "lll", 24554);
        after("rrsl", "lll.", 14554);
        after("rrslll", "llllll", 4543);
        after("rrr", "lls", 205454);
        after("rrrrrr", "llsrrr", 5464);
    }

    private static void onlyThatMomentCounts() {
        Check.sentence("where the other one is at that moment");
        // Player 0 has gone when player 1 walks, player 1 has not when player 0 does.
        after("rrl", "lll", 5543);
        after("rrr", "llr", 5564);
        after("rrrr", "llrr", 5575);
    }

    private static void everyStrikePauses() {
        Check.sentence("strikes, and gets a pause of 2");
        after("s", ".", 20000 + START);
        after(".", "s", 200000 + START);
        after("rrs", "ll.", 24554);
        after("rr.", "lls", 205454);
        // The other one's pause is not touched by a blow.
        after("rrs.", "ll.s", 214454);
    }

    private static void aStrikeReachesAtMostOnePlace() {
        Check.sentence("if the other player is at most 1 place away, the other loses 1 point");
        after("rrs", "ll.", 24554);
        after("rr.", "lls", 205454);
        after("rrs", "l..", 25564);
        after("rr.", "l.s", 205564);
        after("r.s", "l..", 25563);
        after("r.", "ls", 205563);
        after("s", ".", 25572);
        after(".", "s", 205572);
        after("lls", "rr.", 25590);
        after("ll.", "rrs", 205590);
    }

    private static void reachIsMeasuredAfterTheWalking() {
        Check.sentence("if the other player is then at most 1 place away");
        after("rrs", "llr", 25564);
        after("rrs", "l.l", 24554);
        after("rrl", "lls", 205553);
        after("r.r", "lls", 205454);
    }

    private static void bothMayLoseOne() {
        Check.sentence("both may lose one");
        after("rrs", "lls", 224454);
        // The last points too, and the last point of one with another of the other.
        after("rrs..s..s..s..s", "lls..s..s..s..s", 220054);
        after("rrs..s..s..s..s", "ll............s", 220454);
        after("rr............s", "lls..s..s..s..s", 224054);
    }

    private static void pointsDoNotFallBelowZero() {
        Check.sentence("points do not fall below 0");
        String blows = "s..".repeat(12) + "s";
        RollbackGame first = Check.game("rr" + blows, "ll");
        RollbackGame second = Check.game("rr", "ll" + blows);
        RollbackGame both = Check.game("rr" + blows, "ll" + blows);
        Check.ticks(first, 40);
        Check.ticks(second, 40);
        Check.ticks(both, 40);
        for (int n = 15; n <= 40; n++) {
            Check.due("points of 1 after " + n, first.shown(n) / 1000 % 10, 0);
            Check.due("points of 0 after " + n, second.shown(n) / 100 % 10, 0);
            Check.due("points of both after " + n, both.shown(n) / 100 % 100, 0);
        }
        Check.due("strength(1)", first.strength(1), 0);
        Check.due("strength(0)", second.strength(0), 0);
        Check.due("strength(0) of both", both.strength(0), 0);
        Check.due("strength(1) of both", both.strength(1), 0);
    }

    private static void onePointIsNotOut() {
        Check.sentence("a player with no points is out: with one it is not");
        RollbackGame x = Check.game("rrs..s..s..s...l", "lls..s..s..s...r");
        field(x, 12, 221154);
        field(x, 15, 1154);
        field(x, 16, 1163);
        Check.due("winner(40)", x.winner(40), NONE);
        Check.due("overAfter()", x.overAfter(), NONE);
    }

    private static void noPointsAreOut() {
        Check.sentence("if one is out, or both are, the FIGHT IS OVER");
        RollbackGame first = Check.game("rrs..s..s..s..s", "ll.............");
        RollbackGame second = Check.game("rr.............", "lls..s..s..s..s");
        RollbackGame both = Check.game("rrs..s..s..s..s", "lls..s..s..s..s");
        Check.due("1 out: overAfter()", first.overAfter(), 15);
        Check.due("0 out: overAfter()", second.overAfter(), 15);
        Check.due("both out: overAfter()", both.overAfter(), 15);
    }

    private static void noLaterFrameChangesAnything() {
        Check.sentence("no later frame changes anything");
        String[] later = {"lllll", "rrrrr", "sssss", ".s.s."};
        for (String moves0 : later) {
            for (String moves1 : later) {
                stands(Check.game("rrs..s..s..s..s" + moves0, "ll............." + moves1), 20554);
                stands(Check.game("rr............." + moves0, "lls..s..s..s..s" + moves1), 205054);
                stands(Check.game("rrs..s..s..s..s" + moves0, "lls..s..s..s..s" + moves1), 220054);
                // A pause under way stands still with the rest.
                stands(Check.game("rrs..s..s..s..s" + moves0, "ll...........s." + moves1), 120454);
            }
        }
    }

    private static void stands(RollbackGame x, int want) {
        for (int n = 15; n <= 40; n++) {
            field(x, n, want);
        }
        Check.due("shown(14) is another", x.shown(14) != want, true);
    }

    private static void movesArriveInAnyOrder() {
        Check.sentence("Moves arrive in any order");
        String moves0 = "rr.s.lrsr.ls..rrsl.s.rls.srrls..rs.l.srs";
        String moves1 = "ll.lsr.llsr.l..sl.rsl.s.rlls.rs.lls.r.sl";
        String due = Check.lasting(Check.game(moves0, moves1));
        for (int step : new int[] {1, 3, 27, 43, 77, 79}) {
            RollbackGame x = new RollbackGame();
            for (int i = 0; i < 80; i++) {
                int at = (i + 1) * step % 80;
                String moves = at % 2 == 0 ? moves0 : moves1;
                Check.send(x, at % 2, at / 2, moves.substring(at / 2, at / 2 + 1));
            }
            Check.due("arrived by steps of " + step, Check.lasting(x).equals(due), true);
        }
    }

    private static void movesArriveForAnyFrame() {
        Check.sentence("for any frame from 0 to 39");
        for (int p = 0; p < 2; p++) {
            for (int frame = 0; frame < 40; frame++) {
                RollbackGame x = new RollbackGame();
                String call = "arrive(" + p + ", " + frame + ", 3)";
                Check.due(call, x.arrive(p, frame, 3), 0);
                field(x, frame, START);
                field(x, frame + 1, START + (p == 0 ? 20000 : 200000));
            }
            RollbackGame x = new RollbackGame();
            Check.due("arrive(" + p + ", -1, 3)", x.arrive(p, -1, 3), BAD);
            Check.due("arrive(" + p + ", 40, 3)", x.arrive(p, 40, 3), BAD);
        }
    }

    private static void aMoveArrivesOnlyOnce() {
        Check.sentence("a player's move for a frame can arrive only once");
        for (int first = 0; first < 4; first++) {
            for (int again = 0; again < 4; again++) {
                for (int frame = 0; frame < 40; frame += 39) {
                    RollbackGame x = new RollbackGame();
                    Check.due("arrive(0, " + frame + ", " + first + ")", x.arrive(0, frame, first), 0);
                    Check.due("arrive(0, " + frame + ", " + again + ") again", x.arrive(0, frame, again), BAD);
                    Check.due("move(0, " + frame + ")", x.move(0, frame), first);
                    // That of the other player is another move.
                    Check.due("arrive(1, " + frame + ", " + again + ")", x.arrive(1, frame, again), 0);
                    Check.due("arrive(1, " + frame + ", " + first + ") again", x.arrive(1, frame, first), BAD);
                    Check.due("move(1, " + frame + ")", x.move(1, frame), again);
                }
            }
        }
    }

    private static void aFrameIsSureWithBothMoves() {
        Check.sentence("SURE when both players' moves for it have arrived");
        for (int p = 0; p < 2; p++) {
            RollbackGame x = new RollbackGame();
            Check.send(x, p, 0, ".".repeat(40));
            Check.due("sure() with player " + p + " alone", x.sure(), 0);
            x.arrive(1 - p, 0, 0);
            Check.due("sure() with both in frame 0", x.sure(), 1);
            Check.send(x, 1 - p, 1, ".".repeat(38));
            Check.due("sure() but the last move", x.sure(), 39);
            x.arrive(1 - p, 39, 0);
            Check.due("sure() with all", x.sure(), 40);
        }
    }

    private static void aFrameIsSureWithAllEarlierOnes() {
        Check.sentence("SURE when both players' moves for all earlier frames have arrived");
        for (int p = 0; p < 2; p++) {
            for (int gap = 0; gap < 40; gap++) {
                RollbackGame x = new RollbackGame();
                Check.send(x, 1 - p, 0, ".".repeat(40));
                Check.send(x, p, 0, ".".repeat(gap));
                Check.send(x, p, gap + 1, ".".repeat(39 - gap));
                Check.due("sure() without frame " + gap + " of player " + p, x.sure(), gap);
                x.arrive(p, gap, 0);
                Check.due("sure() with it", x.sure(), 40);
            }
        }
    }

    private static void theGuessIsRestWithNoEarlierMove() {
        Check.sentence("THE GUESS is rest (0) if there is none");
        for (int p = 0; p < 2; p++) {
            RollbackGame x = new RollbackGame();
            x.arrive(p, 39, 2);
            x.arrive(p, 20, 1);
            for (int frame = 0; frame < 20; frame++) {
                Check.due("move(" + p + ", " + frame + ")", x.move(p, frame), 0);
            }
            field(x, 20, START);
        }
    }

    private static void theGuessIsTheGreatestEarlierMove() {
        Check.sentence("THE GUESS is the move with the greatest frame below that which has arrived");
        for (int p = 0; p < 2; p++) {
            RollbackGame x = new RollbackGame();
            x.arrive(p, 0, 1);
            Check.due("move(" + p + ", 1)", x.move(p, 1), 1);
            Check.due("move(" + p + ", 39)", x.move(p, 39), 1);
            x.arrive(p, 38, 2);
            Check.due("move(" + p + ", 37)", x.move(p, 37), 1);
            Check.due("move(" + p + ", 39)", x.move(p, 39), 2);
            x.arrive(p, 10, 0);
            Check.due("move(" + p + ", 9)", x.move(p, 9), 1);
            Check.due("move(" + p + ", 11)", x.move(p, 11), 0);
            Check.due("move(" + p + ", 37)", x.move(p, 37), 0);
            Check.due("move(" + p + ", 39)", x.move(p, 39), 2);
            // One that arrives later, for a lesser frame, is no nearer.
            x.arrive(p, 5, 2);
            Check.due("move(" + p + ", 9)", x.move(p, 9), 2);
            Check.due("move(" + p + ", 11)", x.move(p, 11), 0);
        }
    }

    private static void theGuessIsOfTheSamePlayer() {
        Check.sentence("THE GUESS is the move of the same player");
        for (int p = 0; p < 2; p++) {
            RollbackGame x = new RollbackGame();
            x.arrive(p, 0, 2);
            x.arrive(1 - p, 1, 1);
            Check.due("move(" + p + ", 2)", x.move(p, 2), 2);
            Check.due("move(" + (1 - p) + ", 0)", x.move(1 - p, 0), 0);
            Check.due("move(" + (1 - p) + ", 2)", x.move(1 - p, 2), 1);
        }
    }

    private static void theGuessIsRestAfterAStrike() {
        Check.sentence("THE GUESS is rest (0) if that move is a strike");
        for (int p = 0; p < 2; p++) {
            RollbackGame x = new RollbackGame();
            // Not the move before the strike.
            x.arrive(p, 0, 2);
            x.arrive(p, 3, 3);
            Check.due("move(" + p + ", 2)", x.move(p, 2), 2);
            Check.due("move(" + p + ", 3)", x.move(p, 3), 3);
            Check.due("move(" + p + ", 4)", x.move(p, 4), 0);
            Check.due("move(" + p + ", 39)", x.move(p, 39), 0);
            x.arrive(p, 10, 1);
            Check.due("move(" + p + ", 9)", x.move(p, 9), 0);
            Check.due("move(" + p + ", 39)", x.move(p, 39), 1);
        }
        field(Check.game("rs", "ls"), 40, 5563);
    }

    private static void aMoveThatHasArrivedIsNotGuessed() {
        Check.sentence("THE GUESS for a move that has not arrived");
        for (int p = 0; p < 2; p++) {
            for (int move = 0; move < 4; move++) {
                RollbackGame x = new RollbackGame();
                x.arrive(p, 0, 2);
                x.arrive(p, 1, 3);
                x.arrive(p, 2, move);
                x.arrive(p, 39, move);
                Check.due("move(" + p + ", 2)", x.move(p, 2), move);
                Check.due("move(" + p + ", 39)", x.move(p, 39), move);
                // A guess does not count as arrived.
                Check.due("missing(" + p + ")", x.missing(p), 3);
                Check.due("arrive(" + p + ", 3, 1)", x.arrive(p, 3, 1), 0);
            }
        }
    }

    private static void theFieldAfterNoFramesIsTheBeginning() {
        Check.sentence("SHOWN after n frames (n from 0)");
        RollbackGame x = Check.game("s", "s");
        Check.ticks(x, 40);
        field(x, 0, START);
        Check.due("shown(-1)", x.shown(-1), BAD);
    }

    private static void theFieldAfterAllFramesHasTheLast() {
        Check.sentence("SHOWN after n frames (n to 40), the field after the frames 0 .. n - 1");
        RollbackGame x = new RollbackGame();
        x.arrive(0, 39, 3);
        x.arrive(1, 39, 2);
        field(x, 39, START);
        field(x, 40, 25582);
        Check.due("shown(41)", x.shown(41), BAD);
    }
}
