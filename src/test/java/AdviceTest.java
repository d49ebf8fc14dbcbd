/** Promises 10, 11, 12 and 19: BEST, TWO, WORTH and WHOSE. */
public final class AdviceTest {
    private static final Check CHECK = new Check("AdviceTest");
    private static final int BIG = 1000000000;

    public static void main(String[] args) {
        promise10Best();
        promise10LeastOfSeveral();
        promise10Refusals();
        promise11Two();
        promise11Refusals();
        promise11OneTwice();
        promise12Worth();
        promise12WorthBesideALast();
        promise12Refusals();
        promise19Whose();
        CHECK.end();
    }

    private static void promise10Best() {
        // At 1: LOW 14 - 2 * 2, HIGH 12 - 2 * 5; at 2: HIT 10 + 5 - 2 + 4 = 17, GRASP 1, LOW caught 1: 15.
        BallsAtDodger x = Check.hall("p0p55;p1p55;p1p02;b00;");
        CHECK.due("whom and how", x.best(0, 0), 20);
        CHECK.due("number", x.best(0, 1), 15);
        Check.tell(x, "o2;");
        CHECK.due("whom and how", x.best(0, 0), 10);
        CHECK.due("number", x.best(0, 1), 10);
        Check.tell(x, "o1;");
        CHECK.due("nobody", x.best(0, 0), -9);
        CHECK.due("nobody", x.best(0, 1), -9);
        // HIT 5 at least by LOW: 10 + 0 - 9 + 4, CAUGHT 13 - 3: below 0.
        x = Check.hall("p1p00;p0c99;b00;");
        CHECK.due("below 0: whom and how", x.best(0, 0), 10);
        CHECK.due("below 0: number", x.best(0, 1), 5 - 20);
    }

    private static void promise10LeastOfSeveral() {
        BallsAtDodger x = Check.hall("p1p33;p0p22;p0p22;b30;");
        CHECK.due("two are alike", x.best(0, 0), 10);
        // HIT 19 LOW and HIGH, CAUGHT 1 both: LOW is the least.
        x = Check.hall("p1p90;p0p00;b30;");
        CHECK.due("LOW and HIGH are alike", x.best(0, 0), 10);
        CHECK.due("number", x.best(0, 1), 17);
    }

    private static void promise10Refusals() {
        BallsAtDodger x = Check.hall("p1p33;p0p22;");
        CHECK.due("nobody", x.best(2, 2), BIG + 1);
        CHECK.due("nobody", x.best(-1, 0), BIG + 1);
        CHECK.due("other", x.best(0, 2), BIG + 2);
        CHECK.due("other", x.best(0, -1), BIG + 2);
        CHECK.due("holds none", x.best(0, 0), BIG + 3);
        CHECK.due("counted", x.count(11) * 100 + x.count(12) * 10 + x.count(13), 221);
    }

    private static void promise11Two() {
        // HIT of 0 at 2: 10 + 5 - 3 + 4 = 16 LOW; of 1: 10 + 1 - 3 + 4 = 12.
        BallsAtDodger x = Check.hall("p0p55;p0p17;p1p33;b00;b11;");
        CHECK.due("low", x.two(0, 1, 2, 0), 1600 - 24 * 28);
        CHECK.due("turned", x.two(1, 0, 2, 0), 1600 - 24 * 28);
        CHECK.due("high", x.two(0, 1, 2, 1), 1600 - 26 * 30);
        CHECK.due("lobbed", x.two(0, 1, 2, 2), 1600 - 32 * 36);
    }

    private static void promise11Refusals() {
        BallsAtDodger x = Check.hall("p0p55;p0p17;p1p33;p1p44;p0p00;b00;b11;b32;o4;");
        CHECK.due("nobody one", x.two(5, 1, 2, 3), -1);
        CHECK.due("nobody other", x.two(0, -1, 2, 0), -1);
        CHECK.due("nobody whom", x.two(0, 1, 5, 0), -1);
        CHECK.due("one twice", x.two(0, 0, 2, 3), -1);
        CHECK.due("how", x.two(0, 1, 2, 3), -2);
        CHECK.due("how", x.two(0, 1, 2, -1), -2);
        CHECK.due("how ahead of state", x.two(0, 1, 4, 3), -2);
        CHECK.due("two sides", x.two(0, 2, 3, 0), -3);
        CHECK.due("two sides", x.two(2, 0, 3, 0), -3);
        CHECK.due("at his own", x.two(0, 1, 4, 0), -3);
        CHECK.due("the second holds none", x.two(2, 3, 0, 0), -3);
        CHECK.due("the first holds none", x.two(3, 2, 0, 0), -3);
        CHECK.due("one is out", x.two(0, 4, 2, 0), -3);
        Check.tell(x, "o2;");
        CHECK.due("whom is out", x.two(0, 1, 2, 0), -3);
    }

    private static void promise11OneTwice() {
        BallsAtDodger x = Check.hall("p0p55;p0p17;p1p33;b00;b11;");
        String before = Check.readings(x);
        CHECK.due("one and other", x.two(0, 0, 2, 0), -1);
        CHECK.due("one and whom", x.two(0, 1, 0, 0), -1);
        CHECK.due("other and whom", x.two(0, 1, 1, 0), -1);
        CHECK.due("all three", x.two(1, 1, 1, 0), -1);
        CHECK.due("all are counted as -1", x.count(11), 4);
        CHECK.due("one and other ahead of -2", x.two(0, 0, 2, 3), -1);
        CHECK.due("one and whom ahead of -2", x.two(0, 1, 0, 3), -1);
        CHECK.due("other and whom ahead of -2", x.two(0, 1, 1, -1), -1);
        CHECK.due("one and whom ahead of -3", x.two(2, 0, 2, 0), -1);
        CHECK.due("other and whom ahead of -3", x.two(2, 0, 0, 0), -1);
        CHECK.due("all are counted as -1", x.count(11) * 100 + x.count(12) * 10 + x.count(13), 900);
        CHECK.due("nothing else changes", before.equals(Check.readings(x)) ? 1 : 0, 1);
        CHECK.due("not refused behind that", x.two(0, 1, 2, 0), 1600 - 24 * 28);
    }

    private static void promise12Worth() {
        // 0 at 1: HIT 19, CAUGHT 1; at 2: HIT 10, CAUGHT 6. 1 at 0: 9 and 15 (alone); 2 at 0: 18 and 15.
        BallsAtDodger x = Check.hall("p0l55;p1c00;p1p99;");
        CHECK.due("of 0", x.worth(0), -(9 - 30) - (18 - 30));
        CHECK.due("of 1", x.worth(1), -(19 - 2));
        CHECK.due("of 2", x.worth(2), -(10 - 12));
        String before = Check.readings(x);
        x.worth(1);
        CHECK.due("nothing changes", Check.readings(x).equals(before) ? 1 : 0, 1);
        Check.tell(x, "o0;");
        CHECK.due("nobody throws", x.worth(1), 0);
    }

    private static void promise12WorthBesideALast() {
        // 2 at 0: HIT 14, CAUGHT 6 beside another, 15 alone; at 1: HIT 10 + 5 - 0 + 4 = 19, CAUGHT 1.
        BallsAtDodger x = Check.hall("p0l55;p0p00;p1p55;");
        CHECK.due("of the one beside", x.worth(1), (14 - 30) - (14 - 12) - (19 - 2));
        CHECK.due("of the last", x.worth(0), -(14 - 12));
    }

    private static void promise12Refusals() {
        BallsAtDodger x = Check.hall("p1p33;p0p22;o0;");
        CHECK.due("nobody", x.worth(2), BIG + 1);
        CHECK.due("nobody", x.worth(-1), BIG + 1);
        CHECK.due("out", x.worth(0), BIG + 3);
    }

    private static void promise19Whose() {
        BallsAtDodger x = Check.hall("p0p55;p1p17;p1p33;p1p44;p0p00;b00;b41;b53;b33;o4;");
        CHECK.due("of 0", x.whose(0), 2 + 8);
        CHECK.due("of 1", x.whose(1), 1);
        CHECK.due("of 2", x.whose(2), 1);
        CHECK.due("out", x.whose(4), -3);
        CHECK.due("nobody", x.whose(5), -1);
        CHECK.due("nobody", x.whose(-1), -1);
        Check.tell(x, "o1;g00;");
        CHECK.due("one is out", x.whose(0), 8);
        CHECK.due("none", x.whose(2), 0);
    }
}
