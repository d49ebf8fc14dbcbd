/** Promises 1 to 5: a new object, letters, the HALL and what is told of PLAYERS and BALLS. */
public final class HallTest {
    private static final Check CHECK = new Check("HallTest");

    public static void main(String[] args) {
        promise1NewObject();
        promise2Letter();
        promise3Statements();
        promise3UnfitLetters();
        promise3UnfitStatements();
        promise3FaultChangesNothing();
        promise4Kinds();
        promise4Warder();
        promise4Tired();
        promise4Last();
        promise5Ball();
        CHECK.end();
    }

    private static void promise1NewObject() {
        BallsAtDodger x = new BallsAtDodger();
        for (int what = 0; what <= 7; what++) {
            CHECK.due("new count " + what, x.count(what), what == 4 || what == 5 ? 3 : 0);
        }
        for (int ball = 0; ball < 6; ball++) {
            CHECK.due("new holder", x.ball(ball, 0), -9);
            CHECK.due("new side", x.ball(ball, 1), ball / 3);
            CHECK.due("new held", x.ball(ball, 2), 0);
        }
        for (int kind = 1; kind <= 6; kind++) {
            CHECK.due("new refusals", x.count(10 + kind), 0);
        }
        CHECK.due("new on", x.on(), -3);
    }

    private static void promise2Letter() {
        BallsAtDodger x = new BallsAtDodger();
        CHECK.due("letter -1", x.letter(-1), -4);
        CHECK.due("letter least", x.letter(Integer.MIN_VALUE), -4);
        CHECK.due("letter 256", x.letter(256), -6);
        CHECK.due("letter 0", x.letter(0), 1);
        CHECK.due("letter 255", x.letter(255), 2);
        for (int i = 3; i <= 80; i++) {
            CHECK.due("letter " + i, x.letter('p'), i);
        }
        CHECK.due("letter 81", x.letter('p'), -6);
        CHECK.due("letter 81 below", x.letter(-1), -4);
        CHECK.due("letters", x.count(7), 80);
        CHECK.due("hall", x.hall(), -1000);
        CHECK.due("letters no more", x.count(7), 0);
        CHECK.due("letter again", x.letter('p'), 1);
    }

    private static void promise3Statements() {
        BallsAtDodger x = new BallsAtDodger();
        CHECK.due("all statements", Check.tell(x, "p0p12;p1q34;b50;b11;g40;o1;"), 6);
        CHECK.due("players", x.count(0), 2);
        CHECK.due("balls of 0", x.player(0, 3), 32);
        CHECK.due("1 is out", x.player(1, 2), 0);
        CHECK.due("1 waits", x.waits(1, 0), 1);
        CHECK.due("his ball lies", x.ball(1, 1), 1);
        CHECK.due("ball 4", x.ball(4, 1), 0);
        CHECK.due("no tenth went by", x.count(3), 0);
        CHECK.due("more comes behind", Check.tell(x, "p1l99;"), 1);
        CHECK.due("players", x.count(0), 3);
        CHECK.due("still", x.player(0, 3), 32);
        CHECK.due("held by another", Check.tell(x, "b52;b02;"), 2);
        CHECK.due("balls of 0", x.player(0, 3), 0);
        CHECK.due("balls of 2", x.player(2, 3), 33);
        CHECK.due("eight players", Check.tell(x, "p0p00;p0p00;p0p00;p0p00;p0p00;"), 5);
        CHECK.due("thirteen statements", Check.tell(x, "g00;g10;g20;g30;g40;g50;g01;g11;g21;g31;g41;g51;g00;g11;g21;g31;g41;g51;g00;g11;"), 20);
        CHECK.due("lie on 0", x.count(4), 1);
        CHECK.due("the same again", Check.tell(x, "b00;b10;b00;b10;"), 4);
    }

    private static void promise3UnfitLetters() {
        String[] texts = {"", "x", ";", "p", "px", "p0", "p0x", "p0p", "p0pa", "p0p5", "p0p5x", "p0p55", "p0p55x",
            "p0p55;;", "p0p55;b", "p0p55;bx", "b0", "b0;", "b00", "b00b", "g", "g0", "g0;", "g00", "g00x", "o", "oo", "o0", "o0o",
            "p9p99;b99;g99;o9;P", "p0p/0;", "p0p:0;", "p0P00;", "b00;g000;"};
        int[] places = {0, 0, 0, 1, 1, 2, 2, 3, 3, 4, 4, 5, 5,
            6, 7, 7, 2, 2, 3, 3, 1, 2, 2, 3, 3, 1, 1, 2, 2,
            17, 3, 3, 2, 7};
        for (int i = 0; i < texts.length; i++) {
            CHECK.due("hall of " + texts[i], Check.tell(new BallsAtDodger(), texts[i]), -1000 - places[i]);
        }
        BallsAtDodger x = new BallsAtDodger();
        CHECK.due("80 letters, the last lacks", Check.tell(x, "g00;g00;g00;g00;g00;g00;g00;g00;g00;g00;g00;g00;g00;g00;g00;g00;g00;g00;g00;p0p0"), -1080);
        CHECK.due("nothing is counted", x.count(14) + x.count(16) + x.count(11) + x.count(12) + x.count(13), 0);
        for (char kind : "pqctwl".toCharArray()) {
            CHECK.due("kind " + kind, Check.tell(new BallsAtDodger(), "p1" + kind + "09;"), 1);
        }
    }

    private static void promise3UnfitStatements() {
        String[] texts = {"p2p00;", "b00;", "p0p00;b60;", "p0p00;b01;", "p0p00;o0;b00;", "p0p00;o0;o0;", "o0;", "g60;", "g02;", "g09;",
            "p0p00;b00;b10;b20;", "p0p00;b00;b10;b00;b10;b50;", "p0p00;o1;", "p0p00;p1p00;p0p00;p1p00;p0p00;p1p00;p0p00;p1p00;p0p00;"};
        int[] places = {0, 0, 6, 6, 9, 9, 0, 0, 0, 0, 14, 22, 6, 48};
        for (int i = 0; i < texts.length; i++) {
            CHECK.due("hall of " + texts[i], Check.tell(new BallsAtDodger(), texts[i]), -2000 - places[i]);
        }
        CHECK.due("kind 1 ahead of kind 2", Check.tell(new BallsAtDodger(), "p2p00;x"), -1006);
        CHECK.due("first out, then in the text", Check.tell(new BallsAtDodger(), "b00;p0p00;"), -2000);
    }

    private static void promise3FaultChangesNothing() {
        BallsAtDodger x = Check.hall("p0p55;p1p44;b00;");
        String before = Check.readings(x);
        CHECK.due("third statement", Check.tell(x, "p0q11;o1;b70;"), -2009);
        CHECK.due("as it was", Check.readings(x).equals(before) ? 1 : 0, 1);
        CHECK.due("letters are no more", Check.tell(x, ""), -1000);
        CHECK.due("nothing is counted", x.count(11) + x.count(12) + x.count(13) + x.count(14) + x.count(16), 0);
        CHECK.due("behind it all comes", Check.tell(x, "p0q11;o1;"), 2);
    }

    private static void promise4Kinds() {
        BallsAtDodger x = Check.hall("p0p58;p1q58;p0c58;p1t58;p0w58;p1l58;");
        int[] aim = {5, 5, 5, 5, 5, 5};
        int[] dodge = {8, 11, 8, 8, 11, 8};
        int[] grasp = {6, 6, 10, 6, 6, 10};
        for (int player = 0; player < 6; player++) {
            CHECK.due("side " + player, x.player(player, 0), player % 2);
            CHECK.due("kind " + player, x.player(player, 1), player);
            CHECK.due("in " + player, x.player(player, 2), 1);
            CHECK.due("balls " + player, x.player(player, 3), 0);
            CHECK.due("aim " + player, x.player(player, 4), aim[player]);
            CHECK.due("dodge " + player, x.player(player, 5), dodge[player]);
            CHECK.due("grasp " + player, x.player(player, 6), grasp[player]);
        }
        CHECK.due("no such player", x.player(6, 0), -1);
        CHECK.due("no such player", x.player(-1, 0), -1);
        CHECK.due("no such player nor what", x.player(6, 7), -1);
        CHECK.due("other", x.player(0, 7), -2);
        CHECK.due("other", x.player(0, -1), -2);
    }

    private static void promise4Warder() {
        BallsAtDodger x = Check.hall("p0w46;p0w99;");
        CHECK.due("without a ball", x.player(0, 5), 9);
        x.take(0, 2);
        CHECK.due("with one", x.player(0, 5), 11);
        CHECK.due("balls", x.player(0, 3), 4);
        x.take(0, 0);
        CHECK.due("with two", x.player(0, 5), 11);
        CHECK.due("balls", x.player(0, 3), 5);
        CHECK.due("the other holds none", x.player(1, 5), 12);
        CHECK.due("aim", x.player(0, 4), 4);
        CHECK.due("grasp", x.player(0, 6), 5);
    }

    private static void promise4Tired() {
        BallsAtDodger x = Check.hall("p0t30;p0p30;");
        int[] tenths = {9, 10, 19, 20, 29, 30, 39, 40, 9999};
        int[] aims = {3, 2, 2, 1, 1, 0, 0, 0, 0};
        for (int i = 0; i < tenths.length; i++) {
            Check.passTo(x, tenths[i]);
            CHECK.due("aim at " + tenths[i], x.player(0, 4), aims[i]);
            CHECK.due("grasp at " + tenths[i], x.player(0, 6), 1);
            CHECK.due("a player's aim at " + tenths[i], x.player(1, 4), 3);
        }
    }

    private static void promise4Last() {
        BallsAtDodger x = Check.hall("p0l55;p1p00;");
        CHECK.due("alone", x.player(0, 6), 18);
        Check.tell(x, "p0p00;");
        CHECK.due("one more", x.player(0, 6), 9);
        Check.tell(x, "o2;");
        CHECK.due("alone again", x.player(0, 6), 18);
        Check.tell(x, "o0;");
        CHECK.due("out", x.player(0, 6), 9);
        x = Check.hall("p0l55;p0p00;o0;");
        CHECK.due("out, and another alone", x.player(0, 6), 9);
        x = Check.hall("p1l73;p1l64;o0;");
        CHECK.due("alone of side 1", x.player(1, 6), 18);
        CHECK.due("out of side 1", x.player(0, 6), 9);
    }

    private static void promise5Ball() {
        BallsAtDodger x = Check.hall("p1p00;b00;");
        CHECK.due("holder", x.ball(0, 0), 0);
        CHECK.due("side", x.ball(0, 1), -9);
        CHECK.due("held", x.ball(0, 2), 0);
        x.pass(9);
        CHECK.due("held", x.ball(0, 2), 9);
        CHECK.due("holder", x.ball(0, 0), 0);
        CHECK.due("told again", Check.tell(x, "b00;"), 1);
        CHECK.due("held anew", x.ball(0, 2), 0);
        CHECK.due("told to lie", Check.tell(x, "g00;"), 1);
        CHECK.due("nobody holds it", x.ball(0, 0), -9);
        CHECK.due("lies", x.ball(0, 1), 0);
        CHECK.due("no such ball", x.ball(6, 0), -1);
        CHECK.due("no such ball", x.ball(-1, 0), -1);
        CHECK.due("no such ball nor what", x.ball(6, 3), -1);
        CHECK.due("other", x.ball(0, 3), -2);
        CHECK.due("other", x.ball(5, -1), -2);
    }
}
