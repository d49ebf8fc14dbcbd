/** Promises 22 and 23: the image, and on from it. */
public final class ImageTest {
    private static final Check CHECK = new Check("ImageTest");

    public static void main(String[] args) {
        onBringsAllBack();
        onLeavesRowLettersAndRefusals();
        onAgain();
        CHECK.end();
    }

    private static void onBringsAllBack() {
        BallsAtDodger x = new BallsAtDodger();
        CHECK.due("none", x.on(), -3);
        Check.tell(x, "p0p55;p1l44;p1p33;p1q22;o3;o2;b00;b41;");
        x.pass(3);
        String before = Check.readings(x);
        CHECK.due("image", x.image(), 3);
        CHECK.due("it changes nothing", Check.readings(x).equals(before) ? 1 : 0, 1);
        Check.tell(x, "p0w99;b10;");
        x.throwIt(0, 1, 0, 1);
        x.pass(20);
        CHECK.due("on", x.on(), 3);
        CHECK.due("all is as then", Check.readings(x).equals(before) ? 1 : 0, 1);
        CHECK.due("held", x.ball(4, 2), 3);
        CHECK.due("players", x.count(0), 4);
        x.throwIt(0, 1, 0, 1);
        CHECK.due("3 comes in first", x.player(3, 2), 1);
    }

    private static void onLeavesRowLettersAndRefusals() {
        BallsAtDodger x = Check.hall("p0p55;p1l44;");
        x.row(1);
        x.letter('p');
        x.pass(0);
        x.image();
        x.row(2);
        x.letter('0');
        x.pass(0);
        x.on();
        CHECK.due("row", x.count(6), 2);
        CHECK.due("letters", x.count(7), 2);
        CHECK.due("refusals", x.count(14), 2);
        x.clear();
        x.hall();
        x.on();
        CHECK.due("row", x.count(6), 0);
        CHECK.due("letters", x.count(7), 0);
    }

    private static void onAgain() {
        BallsAtDodger x = new BallsAtDodger();
        CHECK.due("of a new one", x.image(), 0);
        Check.tell(x, "p0p55;p1l44;b00;");
        x.pass(5);
        CHECK.due("on", x.on(), 0);
        CHECK.due("nobody", x.count(0), 0);
        CHECK.due("ball 0 lies", x.ball(0, 1), 0);
        x.pass(5);
        CHECK.due("on again", x.on(), 0);
        x.pass(7);
        CHECK.due("another", x.image(), 7);
        x.pass(1);
        CHECK.due("on from that", x.on(), 7);
    }
}
