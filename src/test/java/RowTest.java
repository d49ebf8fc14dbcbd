/** Promises 15 to 18: the ROW, JUDGED, ENDS, and clear. */
public final class RowTest {
    private static final Check CHECK = new Check("RowTest");

    public static void main(String[] args) {
        promise15Row();
        promise16And17AllCanBe();
        promise16WhatCanNotBe();
        promise16LeastBall();
        promise16HeldTooLong();
        promise16And17NothingChanges();
        promise18Clear();
        CHECK.end();
    }

    private static void rows(BallsAtDodger x, int... all) {
        x.clear();
        for (int v : all) {
            x.row(v);
        }
    }

    private static void promise15Row() {
        BallsAtDodger x = new BallsAtDodger();
        CHECK.due("below", x.row(-1), -4);
        CHECK.due("room", x.row(10000), -6);
        for (int i = 1; i <= 12; i++) {
            CHECK.due("row " + i, x.row(i == 1 ? 9999 : 0), i);
        }
        CHECK.due("thirteenth", x.row(0), -6);
        CHECK.due("thirteenth, below", x.row(-1), -4);
        CHECK.due("twelve stay", x.count(6), 12);
    }

    private static void promise16And17AllCanBe() {
        BallsAtDodger x = Check.hall("p0p55;p1p44;p0p33;p1p22;b00;b11;b42;b53;");
        CHECK.due("no row", x.judge(), -9);
        CHECK.due("all in", x.ends(), 15);
        rows(x, 200, 0, 2320);
        CHECK.due("his own side", x.judge(), 0);
        CHECK.due("all in", x.ends(), 15);
        rows(x, 102, 1002, 2301, 3000);
        // 0 misses 1, 1 misses 0, 3 catches 2's, 3 hits 0.
        CHECK.due("all can be", x.judge(), -9);
        CHECK.due("1 and 3 are in", x.ends(), 2 + 8);
        CHECK.due("row stays", x.count(6), 4);
        // 1 is hit; 2's throw is caught by 3: 1 comes in again, and can be thrown at.
        rows(x, 100, 2301, 102);
        CHECK.due("the ball is gone", x.judge(), 2);
        CHECK.due("1, 3 and 0 are in", x.ends(), 1 + 2 + 8);
    }

    private static void promise16WhatCanNotBe() {
        BallsAtDodger x = Check.hall("p0p55;p1p44;p0p33;p1p22;p1p00;b00;b11;b21;b34;o4;");
        int[] wrong = {5100, 9100, 510, 910, 130, 190, 103, 109, 10, 210, 410, 2100, 3000, 4000};
        for (int v : wrong) {
            rows(x, v);
            CHECK.due("can not be: " + v, x.judge(), 0);
            rows(x, 1002, v);
            CHECK.due("can not be behind another: " + v, x.judge(), 1);
        }
        for (int v : new int[] {100, 111, 122, 300, 1000, 1200, 1222}) {
            rows(x, v);
            CHECK.due("can be: " + v, x.judge(), -9);
        }
        rows(x, 100, 1000);
        CHECK.due("hit ones throw no more", x.judge(), 1);
        CHECK.due("1 is out", x.ends(), 1 + 4 + 8);
        rows(x, 102, 102);
        CHECK.due("his ball is gone", x.judge(), 1);
        rows(x, 1002, 1002, 1002);
        CHECK.due("he had two", x.judge(), 2);
        rows(x, 101, 1200, 1201);
        CHECK.due("2 is out behind it", x.judge(), 2);
        CHECK.due("caught, 4 comes in", x.ends(), 2 + 8 + 16);
    }

    private static void promise16LeastBall() {
        // 0 holds 1 for 9 TENTHS, and 3 anew: by the least one, 1 goes in time and 3 is there for the second.
        BallsAtDodger x = Check.hall("p0p55;p1p44;b10;");
        x.pass(8);
        Check.tell(x, "b30;");
        rows(x, 102, 102);
        CHECK.due("the least first", x.judge(), -9);
        x = Check.hall("p0p55;p1p44;b30;");
        x.pass(9);
        Check.tell(x, "b10;");
        rows(x, 102, 102);
        CHECK.due("the other is held too long", x.judge(), 1);
    }

    private static void promise16HeldTooLong() {
        BallsAtDodger x = Check.hall("p0p55;p1p44;b00;b11;");
        x.pass(9);
        rows(x, 102, 1002);
        CHECK.due("1 held it too long", x.judge(), 1);
        x = Check.hall("p0p55;p1p44;b00;b11;");
        x.pass(8);
        rows(x, 102, 1002);
        CHECK.due("just in time", x.judge(), -9);
    }

    private static void promise16And17NothingChanges() {
        BallsAtDodger x = Check.hall("p0p55;p1p44;p0p33;p1p22;b00;b11;b42;b53;");
        rows(x, 101, 2300, 9999);
        String before = Check.readings(x);
        CHECK.due("third", x.judge(), 2);
        CHECK.due("0 and 3 are out", x.ends(), 2 + 4);
        CHECK.due("as it was", Check.readings(x).equals(before) ? 1 : 0, 1);
        CHECK.due("nothing is refused", x.count(11) + x.count(12) + x.count(13) + x.count(14) + x.count(16), 0);
    }

    private static void promise18Clear() {
        BallsAtDodger x = new BallsAtDodger();
        CHECK.due("none", x.clear(), 0);
        x.row(1);
        x.row(2);
        CHECK.due("two", x.clear(), 2);
        CHECK.due("none", x.count(6), 0);
        CHECK.due("none", x.clear(), 0);
        CHECK.due("first again", x.row(3), 1);
    }
}
