/** How a frame changes the field: the four steps under 'Terms', on which promises 6 to 9, 12 and 13 stand. */
public final class FieldTest {
    public static void main(String[] args) {
        playersWalk();
        playersStayOnTheField();
        playersDoNotShareAPlace();
        aStrikePausesItsPlayer();
        aStrikeReachesOnePlace();
        aStrikeComesAfterTheWalking();
        bothMayLose();
        nothingChangesAfterTheFight();
        Check.end();
    }

    private static void field(RollbackGame x, int n, int want) {
        Check.due("shown(" + n + ")", x.shown(n), want);
    }

    private static void playersWalk() {
        RollbackGame x = Check.game("lr.", "rl.");
        field(x, 0, 5572);
        field(x, 1, 5581);
        field(x, 2, 5572);
        field(x, 3, 5572);
    }

    private static void playersStayOnTheField() {
        RollbackGame x = Check.game("lllr.", "rrrl.");
        field(x, 2, 5590);
        field(x, 3, 5590);
        field(x, 4, 5581);
        // One player may cross the whole field when the other leaves it free up to the wall.
        RollbackGame right = Check.game("rrrrrrrr", "rr.");
        field(right, 6, 5598);
        field(right, 7, 5598);
        RollbackGame left = Check.game("ll.", "llllllll");
        field(left, 6, 5510);
        field(left, 7, 5510);
    }

    private static void playersDoNotShareAPlace() {
        // Both want place 5: player 0 goes first.
        RollbackGame race = Check.game("rrr", "l.l");
        field(race, 2, 5564);
        field(race, 3, 5565);
        // Neighbours do not change places.
        RollbackGame swap = Check.game("rrr", "lll");
        field(swap, 2, 5554);
        field(swap, 3, 5554);
        // Player 1 may follow player 0, who has left by then; player 0 may not follow player 1.
        RollbackGame follow = Check.game("rrl.", "lll.");
        field(follow, 3, 5543);
        RollbackGame late = Check.game("rrr.", "llr.");
        field(late, 3, 5564);
        // Each is stopped by one who stands still.
        field(Check.game("rrrrrr", "."), 6, 5576);
        field(Check.game(".", "llllll"), 6, 5532);
    }

    private static void aStrikePausesItsPlayer() {
        RollbackGame x = Check.game("slllrs.", ".......");
        field(x, 1, 25572);
        field(x, 2, 15572);
        field(x, 3, 5572);
        field(x, 4, 5571);
        field(x, 5, 5572);
        field(x, 6, 25572);
        field(x, 7, 15572);
        RollbackGame y = Check.game(".......", "ssssl..");
        field(y, 1, 205572);
        field(y, 2, 105572);
        field(y, 3, 5572);
        field(y, 4, 205572);
        field(y, 5, 105572);
        field(y, 6, 5572);
        // The pauses of the two run apart from each other.
        RollbackGame both = Check.game("ss.", ".s.");
        field(both, 1, 25572);
        field(both, 2, 215572);
        field(both, 3, 105572);
        field(both, 4, 5572);
    }

    private static void aStrikeReachesOnePlace() {
        field(Check.game("rrs", "ll."), 3, 24554);
        field(Check.game("rr.", "lls"), 3, 205454);
        field(Check.game("rrs", "l.."), 3, 25564);
        field(Check.game("rr.", "l.s"), 3, 205564);
        // A strike in a pause does not come off.
        RollbackGame x = Check.game("rrssss", "ll....");
        field(x, 4, 14554);
        field(x, 5, 4554);
        field(x, 6, 23554);
    }

    private static void aStrikeComesAfterTheWalking() {
        field(Check.game("rrs", "llr"), 3, 25564);
        field(Check.game("rrs", "l.l"), 3, 24554);
        field(Check.game("rrl", "lls"), 3, 205553);
        field(Check.game("r.r", "lls"), 3, 205454);
    }

    private static void bothMayLose() {
        RollbackGame x = Check.game("rrs..s..s..s..s.", "lls..s..s..s..s.");
        field(x, 3, 224454);
        field(x, 6, 223354);
        field(x, 12, 221154);
        field(x, 15, 220054);
        field(x, 16, 220054);
        field(x, 40, 220054);
        Check.due("winner(15)", x.winner(15), 2);
    }

    private static void nothingChangesAfterTheFight() {
        RollbackGame x = Check.game("rrs..s..s..s..slllll", "ll...........s.rrrsss");
        field(x, 14, 201454);
        field(x, 15, 120454);
        for (int n = 16; n <= 40; n++) {
            field(x, n, 120454);
        }
        Check.due("winner(40)", x.winner(40), 0);
    }
}
