/** Promise 24, and that a refused call changes nothing but how many there were. */
public final class CountTest {
    private static final Check CHECK = new Check("CountTest");

    public static void main(String[] args) {
        promise24Count();
        promise24Other();
        promise24Refusals();
        CHECK.end();
    }

    private static void promise24Count() {
        BallsAtDodger x = Check.hall("p0p55;p1l44;p1p33;p1q22;p0p00;p0p11;o3;b00;b41;g50;g20;");
        x.pass(4);
        x.row(5);
        x.row(6);
        x.letter('z');
        int[] want = {6, 3, 2, 4, 3, 1, 2, 1};
        for (int what = 0; what < want.length; what++) {
            CHECK.due("count " + what, x.count(what), want[what]);
        }
    }

    private static void promise24Other() {
        BallsAtDodger x = new BallsAtDodger();
        for (int what : new int[] {-1, 8, 9, 10, 17, 18, 100, Integer.MIN_VALUE, Integer.MAX_VALUE}) {
            CHECK.due("count " + what, x.count(what), -9);
        }
        for (int kind = 11; kind <= 16; kind++) {
            CHECK.due("not refused", x.count(kind), 0);
        }
    }

    private static void promise24Refusals() {
        BallsAtDodger x = Check.hall("p0p55;p1l44;p1p33;p0p00;b00;b41;o3;");
        x.image();
        x.row(102);
        x.letter('p');
        String before = Check.readings(x);
        for (int call = 0; call < 30; call++) {
            int kind = refusedCall(x, call);
            CHECK.due("counted, " + call, x.count(10 + kind), 1);
            CHECK.due("all refusals, " + call, allRefusals(x), 1);
            CHECK.due("nothing changes, " + call, Check.readings(x).equals(before) ? 1 : 0, 1);
            x = Check.hall("p0p55;p1l44;p1p33;p0p00;b00;b41;o3;");
            x.image();
            x.row(102);
            x.letter('p');
        }
    }

    private static int allRefusals(BallsAtDodger x) {
        int all = 0;
        for (int what = 11; what <= 16; what++) {
            all += x.count(what);
        }
        return all;
    }

    /** Makes a call that is refused, looks at its answer, and says by which number. */
    private static int refusedCall(BallsAtDodger x, int call) {
        switch (call) {
            case 0: return refused(x.letter(-5));
            case 1: return refused(x.letter(300));
            case 2: return refused(x.player(4, 0));
            case 3: return refused(x.player(0, 9));
            case 4: return refused(x.ball(7, 0));
            case 5: return refused(x.ball(0, 7));
            case 6: return refused(x.odds(9, 0, 0, 0));
            case 7: return refused(x.odds(0, 1, 5, 0));
            case 8: return refused(x.odds(0, 3, 0, 0));
            case 9: return refused(x.throwIt(0, 9, 0, 0));
            case 10: return refused(x.throwIt(0, 1, 0, 9));
            case 11: return refused(x.throwIt(1, 1, 0, 0));
            case 12: return refused(x.take(4, 0));
            case 13: return refused(x.take(3, 1));
            case 14: return refused(x.pass(-2));
            case 15: return refused(x.pass(60));
            case 16: return refused(1000000000 - x.best(7, 0));
            case 17: return refused(1000000000 - x.best(0, 5));
            case 18: return refused(1000000000 - x.best(3, 0));
            case 19: return refused(x.two(0, 0, 1, 0));
            case 20: return refused(x.two(0, 3, 1, 0));
            case 21: return refused(1000000000 - x.worth(3));
            case 22: return refused((int) (4000000000000000000L - x.duel(1, 1, 1, 1, 99, 0)));
            case 23: return refused((int) (4000000000000000000L - x.game(0, 3, 0)));
            case 24: return refused(x.row(-7));
            case 25: return refused(x.row(77777));
            case 26: return refused(x.whose(3));
            case 27: return refused(x.waits(0, 9));
            case 28: return refused(x.lots(0, 0));
            default: return refused(x.lots(99, 0));
        }
    }

    private static int refused(int answer) {
        CHECK.due("refused by " + answer, answer == -1 || answer == -2 || answer == -3 || answer == -4 || answer == -6 ? 1 : 0, 1);
        return Math.max(1, Math.min(6, -answer));
    }
}
