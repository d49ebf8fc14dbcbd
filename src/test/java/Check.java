/** What all tests share: counting the answers that are not due, and telling halls. */
final class Check {
    private final String name;
    private int asked;
    private int wrong;

    Check(String name) {
        this.name = name;
    }

    void due(String call, long got, long want) {
        asked++;
        if (got != want) {
            wrong++;
            if (wrong <= 20) {
                System.out.println(name + ": " + call + " answered " + got + ", due is " + want);
            }
        }
    }

    void holds(String what, boolean itDoes) {
        due(what, itDoes ? 1 : 0, 1);
    }

    /** Prints how it went; ends the program with 1 if an answer was wrong. */
    void end() {
        System.out.println(name + ": " + asked + " answers, " + wrong + " wrong");
        if (wrong != 0 || asked == 0) {
            System.exit(1);
        }
    }

    /** A new object that has been told a hall without fault. */
    static BallsAtDodger hall(String letters) {
        BallsAtDodger x = new BallsAtDodger();
        if (tell(x, letters) < 1) {
            throw new IllegalArgumentException(letters);
        }
        return x;
    }

    /** Tells letters, none of them a hall yet. */
    static void letters(BallsAtDodger x, String letters) {
        for (int i = 0; i < letters.length(); i++) {
            x.letter(letters.charAt(i));
        }
    }

    /** Tells letters and makes them a hall: what hall() answers. */
    static int tell(BallsAtDodger x, String letters) {
        letters(x, letters);
        return x.hall();
    }

    /** Lets TENTHS go by until the clock shows as many; ends, too, if the clock stands still. */
    static void passTo(BallsAtDodger x, int tenth) {
        int now = x.count(3);
        for (int left = 250; left > 0 && now >= 0 && now < tenth; left--) {
            now = x.pass(Math.min(50, tenth - now));
        }
    }

    /** All that can be read of an object without a refusal, but the refusals themselves. */
    static String readings(BallsAtDodger x) {
        StringBuilder all = new StringBuilder();
        for (int what = 0; what <= 7; what++) {
            all.append(x.count(what)).append(' ');
        }
        for (int player = 0; player < x.count(0); player++) {
            for (int what = 0; what <= 6; what++) {
                all.append(x.player(player, what)).append(' ');
            }
        }
        for (int ball = 0; ball < 6; ball++) {
            for (int what = 0; what <= 2; what++) {
                all.append(x.ball(ball, what)).append(' ');
            }
        }
        for (int place = 0; place < 8; place++) {
            all.append(x.waits(0, place)).append(' ').append(x.waits(1, place)).append(' ');
        }
        return all.append(x.judge()).append(' ').append(x.ends()).toString();
    }
}
