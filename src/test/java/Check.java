/** What the tests of the project share: the count of wrong answers, and short ways to set a game up. */
final class Check {
    private static int wrong = 0;
    private static int asked = 0;
    private static int sentences = 0;
    private static String sentence = "";

    private Check() {
    }

    /** What follows tests this sentence of the document; it is told with a wrong answer. */
    static void sentence(String text) {
        sentences++;
        sentence = "[" + text + "] ";
    }

    static void due(String call, long got, long want) {
        asked++;
        if (got != want) {
            wrong++;
            System.out.println(sentence + call + " answered " + got + ", due is " + want);
        }
    }

    static void due(String call, boolean got, boolean want) {
        due(call, got ? 1L : 0L, want ? 1L : 0L);
    }

    static void end() {
        String of = sentences > 0 ? " to " + sentences + " sentences" : "";
        System.out.println(asked + " answers" + of + ", " + wrong + " not as due");
        if (wrong != 0) {
            System.exit(1);
        }
    }

    /** A game in which the moves of both have arrived from frame 0 on: '.' rest, 'l' left, 'r' right, 's' strike. */
    static RollbackGame game(String moves0, String moves1) {
        RollbackGame x = new RollbackGame();
        send(x, 0, 0, moves0);
        send(x, 1, 0, moves1);
        return x;
    }

    static void send(RollbackGame x, int p, int first, String moves) {
        for (int i = 0; i < moves.length(); i++) {
            x.arrive(p, first + i, ".lrs".indexOf(moves.charAt(i)));
        }
    }

    static void ticks(RollbackGame x, int count) {
        for (int i = 0; i < count; i++) {
            x.tick();
        }
    }

    /** All answers now, to every arrival and tick that may still come, and after them: 389 calls. */
    static String answersToTheEnd(RollbackGame x) {
        StringBuilder all = new StringBuilder(answers(x));
        for (int i = 0; i < 41; i++) {
            all.append(' ').append(x.tick());
        }
        for (int i = 0; i < 80; i++) {
            all.append(' ').append(x.arrive(i % 2, i / 2, (i + i / 7) % 4));
        }
        return all.append(' ').append(answers(x)).toString();
    }

    /** What a call without effect must leave as it was: 134 calls, of the 512 that an object is good for. */
    static String answers(RollbackGame x) {
        StringBuilder all = new StringBuilder();
        all.append(x.played()).append(' ').append(x.settled());
        for (int p = 0; p < 2; p++) {
            all.append(' ').append(x.position(p)).append(' ').append(x.strength(p)).append(' ').append(x.pause(p));
        }
        return all + lasting(x);
    }

    /** The answers that do not speak of the frames played: 126 calls. */
    static String lasting(RollbackGame x) {
        StringBuilder all = new StringBuilder();
        for (int p = 0; p < 2; p++) {
            all.append(' ').append(x.missing(p)).append(':');
            for (int frame = 0; frame < 40; frame++) {
                all.append(x.move(p, frame));
            }
        }
        for (int n = 0; n <= 40; n++) {
            all.append(' ').append(x.shown(n));
        }
        return all.append(' ').append(x.winner(40)).append(' ').append(x.sure()).append(' ').append(x.overAfter()).toString();
    }
}
