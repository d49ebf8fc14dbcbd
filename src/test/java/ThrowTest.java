/** Promises 6 to 9 and 20: odds, throws, taking, TENTHS and who waits. */
public final class ThrowTest {
    private static final Check CHECK = new Check("ThrowTest");

    public static void main(String[] args) {
        promise6Odds();
        promise6Bounds();
        promise7Hit();
        promise7Caught();
        promise7CaughtWithFullHands();
        promise7Missed();
        promise7Refusals();
        promise8Take();
        promise9Pass();
        promise9HeldTooLong();
        lastTenth();
        promise20Waits();
        CHECK.end();
    }

    private static void promise6Odds() {
        BallsAtDodger x = Check.hall("p0p55;p1q64;p0p00;p1p00;o3;");
        int[] hit = {12, 10, 4};
        int[] caught = {2, 5, 13};
        for (int how = 0; how < 3; how++) {
            CHECK.due("hit " + how, x.odds(0, 1, how, 0), hit[how]);
            CHECK.due("caught " + how, x.odds(0, 1, how, 1), caught[how]);
            CHECK.due("misses " + how, x.odds(0, 1, how, 2), 40 - hit[how] - caught[how]);
        }
        CHECK.due("nobody who", x.odds(4, 1, 0, 0), -1);
        CHECK.due("nobody whom", x.odds(0, -1, 3, 0), -1);
        CHECK.due("other how", x.odds(0, 1, 3, 0), -2);
        CHECK.due("other how", x.odds(0, 1, -1, 0), -2);
        CHECK.due("other end", x.odds(0, 2, 0, 3), -2);
        CHECK.due("other end", x.odds(0, 1, 0, -1), -2);
        CHECK.due("one side", x.odds(0, 2, 0, 0), -3);
        CHECK.due("himself", x.odds(0, 0, 0, 0), -3);
        CHECK.due("whom is out", x.odds(0, 3, 0, 0), -3);
        CHECK.due("who is out", x.odds(3, 0, 0, 0), -3);
    }

    private static void promise6Bounds() {
        BallsAtDodger x = Check.hall("p0p90;p0p00;p1l99;p1q09;p1p00;");
        CHECK.due("hit at most", x.odds(0, 4, 0, 0), 19);
        CHECK.due("hit, high, at most", x.odds(0, 4, 1, 0), 19);
        CHECK.due("hit, lobbed", x.odds(0, 4, 2, 0), 15);
        CHECK.due("hit at least", x.odds(1, 3, 2, 0), 1);
        CHECK.due("hit, high", x.odds(1, 3, 1, 0), 1);
        CHECK.due("hit, low", x.odds(1, 3, 0, 0), 2);
        CHECK.due("caught at least", x.odds(0, 4, 0, 1), 1);
        CHECK.due("caught, high, at least", x.odds(0, 4, 1, 1), 1);
        CHECK.due("caught, lobbed", x.odds(0, 4, 2, 1), 8);
        CHECK.due("caught at most", x.odds(0, 2, 2, 1), 19);
        CHECK.due("caught, low", x.odds(0, 2, 0, 1), 10);
        Check.tell(x, "o3;o4;");
        CHECK.due("caught, alone", x.odds(0, 2, 0, 1), 19);
    }

    private static void promise7Hit() {
        BallsAtDodger x = Check.hall("p0p55;p1p44;p1p44;b00;b10;b41;b51;");
        CHECK.due("hit", x.throwIt(1, 1, 0, 0), 1);
        CHECK.due("out", x.player(1, 2), 0);
        CHECK.due("waits", x.waits(1, 0), 1);
        CHECK.due("the ball lies there", x.ball(1, 1), 1);
        CHECK.due("what he held lies", x.ball(4, 1), 1);
        CHECK.due("what he held lies", x.ball(5, 1), 1);
        CHECK.due("held", x.ball(0, 2), 1);
        CHECK.due("holder", x.ball(0, 0), 0);
        CHECK.due("tenth", x.count(3), 1);
        CHECK.due("another is in", x.player(2, 2), 1);
    }

    private static void promise7Caught() {
        BallsAtDodger x = Check.hall("p0p55;p1p44;p1p44;p1p44;p0p00;o3;o2;b00;b10;b41;o4;");
        CHECK.due("caught", x.throwIt(0, 1, 2, 1), 1);
        CHECK.due("who threw is out", x.player(0, 2), 0);
        CHECK.due("he waits behind another", x.waits(0, 1), 0);
        CHECK.due("nobody of his comes", x.waits(0, 0), 4);
        CHECK.due("what he held lies", x.ball(1, 1), 0);
        CHECK.due("the catcher holds it", x.ball(0, 0), 1);
        CHECK.due("held for the tenth", x.ball(0, 2), 1);
        CHECK.due("his other", x.ball(4, 2), 1);
        CHECK.due("who waited longest is in", x.player(3, 2), 1);
        CHECK.due("the other waits", x.player(2, 2), 0);
        CHECK.due("first now", x.waits(1, 0), 2);
        CHECK.due("one waits", x.waits(1, 1), -9);
    }

    private static void promise7CaughtWithFullHands() {
        BallsAtDodger x = Check.hall("p0p55;p1p44;b00;b41;b51;");
        CHECK.due("caught", x.throwIt(0, 1, 1, 1), 1);
        CHECK.due("lies at the catcher's", x.ball(0, 1), 1);
        CHECK.due("he holds two", x.player(1, 3), 48);
        CHECK.due("nobody waited", x.count(2), 1);
        CHECK.due("who threw is out", x.count(1), 0);
    }

    private static void promise7Missed() {
        BallsAtDodger x = Check.hall("p0p55;p1p44;b01;b31;");
        x.pass(9);
        CHECK.due("missed", x.throwIt(3, 0, 1, 2), 10);
        CHECK.due("both in", x.count(1) + x.count(2), 2);
        CHECK.due("lies", x.ball(3, 1), 0);
        CHECK.due("held too long, lies at the other side", x.ball(0, 1), 0);
        CHECK.due("held", x.ball(0, 2), 0);
        CHECK.due("none is held", x.player(1, 3), 0);
    }

    private static void promise7Refusals() {
        BallsAtDodger x = Check.hall("p0p55;p1p44;p0p00;p1p00;b00;o3;");
        CHECK.due("no ball", x.throwIt(6, 1, 3, 3), -1);
        CHECK.due("no ball", x.throwIt(-1, 1, 0, 0), -1);
        CHECK.due("nobody", x.throwIt(0, 4, 3, 3), -1);
        CHECK.due("nobody", x.throwIt(0, -1, 0, 0), -1);
        CHECK.due("how", x.throwIt(1, 1, 3, 0), -2);
        CHECK.due("how", x.throwIt(0, 1, -1, 0), -2);
        CHECK.due("end", x.throwIt(1, 1, 0, 3), -2);
        CHECK.due("end", x.throwIt(0, 1, 0, -1), -2);
        CHECK.due("it lies", x.throwIt(1, 1, 0, 0), -3);
        CHECK.due("he is out", x.throwIt(0, 3, 0, 0), -3);
        CHECK.due("one side", x.throwIt(0, 2, 0, 0), -3);
        CHECK.due("himself", x.throwIt(0, 0, 0, 0), -3);
        CHECK.due("no tenth went by", x.count(3), 0);
    }

    private static void promise8Take() {
        BallsAtDodger x = Check.hall("p0p55;p1p44;p0p00;o2;");
        CHECK.due("take", x.take(0, 1), 1);
        CHECK.due("holder", x.ball(1, 0), 0);
        CHECK.due("held for the tenth", x.ball(1, 2), 1);
        CHECK.due("lies no more", x.ball(1, 1), -9);
        CHECK.due("he holds it", x.take(0, 1), -3);
        CHECK.due("other side", x.take(0, 3), -3);
        CHECK.due("other side", x.take(1, 0), -3);
        CHECK.due("held by another", x.take(1, 1), -3);
        CHECK.due("out", x.take(2, 0), -3);
        CHECK.due("nobody", x.take(3, 0), -1);
        CHECK.due("nobody", x.take(-1, 0), -1);
        CHECK.due("no ball", x.take(0, 6), -1);
        CHECK.due("no ball", x.take(0, -1), -1);
        CHECK.due("second", x.take(0, 0), 2);
        CHECK.due("third", x.take(0, 2), -3);
        CHECK.due("other's", x.take(1, 5), 3);
        CHECK.due("held", x.ball(1, 2), 3);
        CHECK.due("held", x.ball(0, 2), 2);
        CHECK.due("held", x.ball(5, 2), 1);
    }

    private static void promise9Pass() {
        BallsAtDodger x = new BallsAtDodger();
        CHECK.due("none", x.pass(0), -4);
        CHECK.due("below", x.pass(-1), -4);
        CHECK.due("least", x.pass(Integer.MIN_VALUE), -4);
        CHECK.due("above", x.pass(51), -6);
        CHECK.due("greatest", x.pass(Integer.MAX_VALUE), -6);
        CHECK.due("one", x.pass(1), 1);
        CHECK.due("fifty", x.pass(50), 51);
    }

    private static void promise9HeldTooLong() {
        BallsAtDodger x = Check.hall("p0p55;p1p44;");
        x.take(0, 0);
        x.take(1, 5);
        x.take(0, 1);
        x.pass(6);
        CHECK.due("nine", x.ball(0, 2), 9);
        CHECK.due("eight", x.ball(5, 2), 8);
        CHECK.due("seven", x.ball(1, 2), 7);
        x.pass(1);
        CHECK.due("ten: it lies", x.ball(0, 0), -9);
        CHECK.due("on the other side", x.ball(0, 1), 1);
        CHECK.due("held no more", x.ball(0, 2), 0);
        CHECK.due("nine", x.ball(5, 0), 1);
        x.pass(2);
        CHECK.due("lies at side 0", x.ball(5, 1), 0);
        CHECK.due("lies at side 1", x.ball(1, 1), 1);
        x.pass(50);
        CHECK.due("lies still", x.ball(1, 1), 1);
        CHECK.due("nor is it held", x.ball(1, 2), 0);
    }

    private static void lastTenth() {
        BallsAtDodger x = Check.hall("p0p55;p1p44;p0p00;");
        Check.passTo(x, 9950);
        CHECK.due("above", x.pass(50), -6);
        CHECK.due("48", x.pass(48), 9998);
        CHECK.due("above", x.pass(2), -6);
        CHECK.due("take", x.take(0, 0), 9999);
        CHECK.due("above", x.pass(1), -6);
        CHECK.due("below", x.pass(0), -4);
        CHECK.due("take no more", x.take(0, 1), -6);
        CHECK.due("take what is not there", x.take(0, 5), -3);
        CHECK.due("throw no more", x.throwIt(0, 1, 0, 0), -6);
        CHECK.due("throw at his own", x.throwIt(0, 2, 0, 0), -3);
        CHECK.due("he holds it", x.ball(0, 0), 0);
        CHECK.due("tenth", x.count(3), 9999);
        x = Check.hall("p0p55;p1p44;b00;");
        Check.passTo(x, 9998);
        Check.tell(x, "b00;");
        CHECK.due("throw the last", x.throwIt(0, 1, 0, 0), 9999);
    }

    private static void promise20Waits() {
        BallsAtDodger x = Check.hall("p0p55;p1p44;p0p00;p0p11;o2;o0;o1;o3;");
        CHECK.due("first", x.waits(0, 0), 2);
        CHECK.due("second", x.waits(0, 1), 0);
        CHECK.due("third", x.waits(0, 2), 3);
        CHECK.due("no more", x.waits(0, 3), -9);
        CHECK.due("no more", x.waits(0, 7), -9);
        CHECK.due("of 1", x.waits(1, 0), 1);
        CHECK.due("of 1", x.waits(1, 1), -9);
        CHECK.due("no side", x.waits(2, -1), -1);
        CHECK.due("no side", x.waits(-1, 8), -1);
        CHECK.due("below", x.waits(1, -1), -4);
        CHECK.due("room", x.waits(1, 8), -6);
        x = Check.hall("p0p55;p1p44;p0p00;p0p11;p1p00;o2;o0;o3;b01;b31;p0p22;b45;");
        x.throwIt(0, 5, 0, 2);
        x.throwIt(4, 1, 0, 0);
        CHECK.due("1 waits", x.waits(1, 0), 1);
        Check.tell(x, "b54;");
        x.throwIt(5, 5, 0, 1);
        CHECK.due("behind 1", x.waits(1, 1), 4);
        CHECK.due("2 came in", x.player(2, 2), 1);
        CHECK.due("first now", x.waits(0, 0), 0);
        Check.tell(x, "o2;");
        CHECK.due("he is last now", x.waits(0, 2), 2);
    }
}
