/** Long runs of drawn calls, answered by the program as by the Model. The draws are a fixed row: each run is always the same. */
public final class RandomRunsTest {
    private static final Check CHECK = new Check("RandomRunsTest");
    private static final int RUNS = 3000;
    private static final int[] WILD = {-1, 8, 9, 12, 31, 51, 256, 10000, Integer.MIN_VALUE, Integer.MAX_VALUE};

    private static long z = 20261118;
    private static int run;
    private static int step;

    public static void main(String[] args) {
        for (run = 0; run < RUNS; run++) {
            BallsAtDodger x = new BallsAtDodger();
            Model m = new Model();
            letHallCome(x, m);
            for (step = 0; step < 150; step++) {
                call(x, m, draw(40));
            }
            lookAtAll(x, m);
        }
        CHECK.end();
    }

    private static int draw(int m) {
        z = z * 6364136223846793005L + 1442695040888963407L;
        return (int) ((z >>> 33) % m);
    }

    /** Mostly below m, now and then anything. */
    private static int some(int m) {
        return draw(30) == 0 ? WILD[draw(WILD.length)] : draw(40) == 0 ? m : draw(m);
    }

    private static void due(String call, long got, long want) {
        CHECK.due("run " + run + ", step " + step + ": " + call, got, want);
    }

    private static void letHallCome(BallsAtDodger x, Model m) {
        StringBuilder text = new StringBuilder();
        int players = 2 + draw(7);
        for (int i = 0; i < players; i++) {
            text.append('p').append(draw(4) == 0 ? draw(2) : i % 2).append("pqctwl".charAt(draw(6))).append(draw(10)).append(draw(10)).append(';');
        }
        for (int i = 0; i < 6 && text.length() < 76; i++) {
            text.append('b').append(i).append(i % players).append(';');
        }
        tell(x, m, text.toString());
    }

    private static void tell(BallsAtDodger x, Model m, String text) {
        for (int i = 0; i < text.length(); i++) {
            due("letter", x.letter(text.charAt(i)), m.letter(text.charAt(i)));
        }
        due("hall of " + text, x.hall(), m.hall());
    }

    private static String drawnText() {
        StringBuilder text = new StringBuilder();
        int statements = draw(5);
        for (int i = 0; i < statements; i++) {
            switch (draw(6)) {
                case 0: text.append('p').append(draw(8) == 0 ? 2 : draw(2)).append("pqctwl".charAt(draw(6))).append(draw(10)).append(draw(10)); break;
                case 1: text.append('o').append(draw(9)); break;
                case 2: text.append('g').append(draw(7)).append(draw(15) == 0 ? 2 : draw(2)); break;
                default: text.append('b').append(draw(12) == 0 ? 6 : draw(6)).append(draw(8)); break;
            }
            text.append(';');
        }
        if (draw(6) == 0 && text.length() > 0) {
            text.setCharAt(draw(text.length()), "pbgo;019qx".charAt(draw(10)));
        }
        if (draw(8) == 0 && text.length() > 0) {
            text.setLength(draw(text.length()));
        }
        return text.toString();
    }

    private static void call(BallsAtDodger x, Model m, int which) {
        int[] n = {some(8), some(8), some(3), some(3), some(6), some(7), some(256)};
        switch (which) {
            case 0: tell(x, m, drawnText()); break;
            case 1: due("letter " + n[6], x.letter(n[6]), m.letter(n[6])); break;
            default: askOrPlay(x, m, which, n); break;
        }
    }

    private static void askOrPlay(BallsAtDodger x, Model m, int which, int[] n) {
        String name = which + " " + java.util.Arrays.toString(n);
        int seed = draw(1 << 30) * 3;
        int many = 1 + draw(4);
        switch (which) {
            case 2: due(name, x.player(n[0], n[5]), m.player(n[0], n[5])); break;
            case 3: due(name, x.ball(n[4], n[2]), m.ball(n[4], n[2])); break;
            case 4: due(name, x.odds(n[0], n[1], n[2], n[3]), m.odds(n[0], n[1], n[2], n[3])); break;
            case 5: due(name, x.best(n[0], n[2]), m.best(n[0], n[2])); break;
            case 6: due(name, x.two(n[0], n[1], n[5], n[2]), m.two(n[0], n[1], n[5], n[2])); break;
            case 7: due(name, x.worth(n[0]), m.worth(n[0])); break;
            case 8: due(name, x.game(n[0], n[1], n[2]), m.game(n[0], n[1], n[2])); break;
            case 9: due(name, x.judge(), m.judge()); break;
            case 10: due(name, x.ends(), m.ends()); break;
            case 11: due(name, x.clear(), m.clear()); break;
            case 12: due(name, x.whose(n[0]), m.whose(n[0])); break;
            case 13: due(name, x.waits(n[2], n[1]), m.waits(n[2], n[1])); break;
            case 14: due(name, x.lots(n[1] * 4, seed), m.lots(n[1] * 4, seed)); break;
            case 15: due(name, x.image(), m.image()); break;
            case 16: due(name, x.on(), m.on()); break;
            case 17: due(name, x.count(n[5] + n[2]), m.count(n[5] + n[2])); break;
            case 18: due(name, x.pass(many), m.pass(many)); break;
            case 19: due(name, x.pass(n[1]), m.pass(n[1])); break;
            case 20: case 21: case 22: rows(x, m, name); break;
            default: play(x, m, name, n, which); break;
        }
    }

    private static void rows(BallsAtDodger x, Model m, String name) {
        int v = draw(20) == 0 ? some(10000) : 1000 * draw(8) + 100 * draw(8) + 10 * draw(3) + draw(3);
        due(name, x.row(v), m.row(v));
    }

    private static void play(BallsAtDodger x, Model m, String name, int[] n, int which) {
        if (which < 32) {
            due(name, x.throwIt(n[4], n[1], n[2], n[3]), m.throwIt(n[4], n[1], n[2], n[3]));
        } else {
            due(name, x.take(n[0], n[4]), m.take(n[0], n[4]));
        }
    }

    private static void lookAtAll(BallsAtDodger x, Model m) {
        for (int what = 0; what <= 17; what++) {
            due("count " + what, x.count(what), m.count(what));
        }
        for (int i = 0; i < 8; i++) {
            for (int what = 0; what <= 6; what++) {
                due("player " + i + " " + what, x.player(i, what), m.player(i, what));
            }
            for (int what = 0; what <= 2; what++) {
                due("ball " + i + " " + what, x.ball(i, what), m.ball(i, what));
            }
            due("waits 0 " + i, x.waits(0, i), m.waits(0, i));
            due("waits 1 " + i, x.waits(1, i), m.waits(1, i));
            due("worth " + i, x.worth(i), m.worth(i));
            due("best " + i, x.best(i, 0), m.best(i, 0));
        }
        due("judge", x.judge(), m.judge());
        due("ends", x.ends(), m.ends());
    }
}
