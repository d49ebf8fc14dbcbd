import java.util.Arrays;

/**
 * The REFUSALS of every call: the last number that is allowed and the first that is not, of two that fit the one that
 * the document tells first, that it is counted once, and that nothing else changes by it.
 */
public final class RefusalTest {
    private static final Check CHECK = new Check("RefusalTest");
    private static final int NOBODY = -1;
    private static final int OTHER = -2;
    private static final int STATE = -3;
    private static final int BELOW = -4;
    private static final int ROOM = -6;
    private static final int LEAST = Integer.MIN_VALUE;
    private static final int MOST = Integer.MAX_VALUE;
    private static final String PLAYERS = "p0p55;p1q64;p0c37;p1t92;p0w46;p1l58;p0p11;o4;o5;";

    private interface Call {
        long of(BallsAtDodger x, int[] a);
    }

    public static void main(String[] args) {
        promise2Letter();
        promise3NothingIsCounted();
        promise4Player();
        promise5Ball();
        promise6Odds();
        promise7ThrowIt();
        promise8Take();
        promise9Pass();
        promises7To9AtTheLastTenth();
        promise10Best();
        promise11Two();
        promise12Worth();
        promise13Duel();
        promise14Game();
        promise15Row();
        promise19Whose();
        promise20Waits();
        promise21Lots();
        promise23On();
        callsThatAreNeverRefused();
        refusalsAreCountedEachForItself();
        CHECK.end();
    }

    /** 0 (two BALLS), 2 (one) and 6 (none) are IN on SIDE 0, 1 (one) and 3 (none) on SIDE 1; 4 and 5 are OUT; BALLS 3 and 5 lie. */
    private static BallsAtDodger scene() {
        BallsAtDodger x = imageOfScene();
        Check.letters(x, "b00;b10;b22;b41;g50;");
        x.hall();
        x.pass(2);
        x.row(102);
        x.row(1000);
        Check.letters(x, "p0");
        return x;
    }

    private static BallsAtDodger imageOfScene() {
        BallsAtDodger x = Check.hall(PLAYERS);
        x.image();
        return x;
    }

    /** Every row of numbers is refused so by the call, in the scene. */
    private static void refused(String name, int refusal, Call call, int[]... rows) {
        for (int[] row : rows) {
            BallsAtDodger x = scene();
            refused(name + Arrays.toString(row), refusal, x, call, row);
            lettersAndImageStay(name + Arrays.toString(row), x);
        }
    }

    private static void refused(String name, int refusal, BallsAtDodger x, Call call, int... row) {
        String before = Check.readings(x);
        int[] counted = counted(x);
        CHECK.due(name, call.of(x, row), refusal);
        counted[-refusal]++;
        CHECK.holds(name + " counted once, by its number", Arrays.equals(counted, counted(x)));
        CHECK.holds(name + " changes nothing", before.equals(Check.readings(x)));
    }

    private static void lettersAndImageStay(String name, BallsAtDodger x) {
        CHECK.due(name + ": on", x.on(), 0);
        x.clear();
        Check.letters(x, "p11;");
        CHECK.due(name + ": the letters stay", x.hall(), 1);
        BallsAtDodger y = imageOfScene();
        Check.tell(y, "p0p11;");
        CHECK.holds(name + ": the image stays", Check.readings(y).equals(Check.readings(x)));
    }

    /** How many REFUSALS -k there were, at k. */
    private static int[] counted(BallsAtDodger x) {
        int[] all = new int[7];
        for (int k = 1; k <= 6; k++) {
            all[k] = x.count(10 + k);
        }
        return all;
    }

    /** Of best() and worth(): REFUSALS told as 1000000000 less them. */
    private static long small(int answer) {
        return 1000000000L - answer;
    }

    /** Of longs: REFUSALS told as 4000000000000000000 less them. */
    private static long ofLong(long answer) {
        return 4000000000000000000L - answer;
    }

    private static int[] of(int... numbers) {
        return numbers;
    }

    private static void promise2Letter() {
        Call letter = (x, a) -> x.letter(a[0]);
        refused("letter", BELOW, letter, of(-1), of(LEAST));
        refused("letter", ROOM, letter, of(256), of(MOST));
        CHECK.due("letter 0", scene().letter(0), 3);
        CHECK.due("letter 255", scene().letter(255), 3);
        BallsAtDodger x = new BallsAtDodger();
        Check.letters(x, "g01;".repeat(19) + "g3");
        CHECK.due("letter 79", x.letter('0'), 79);
        CHECK.due("letter 80", x.letter(';'), 80);
        refusedOf80Letters(ROOM, 0);
        refusedOf80Letters(ROOM, ';');
        refusedOf80Letters(ROOM, 256);
        refusedOf80Letters(BELOW, -1);
    }

    private static void refusedOf80Letters(int refusal, int letter) {
        BallsAtDodger full = new BallsAtDodger();
        Check.letters(full, "g01;".repeat(19) + "g30;");
        refused("letter 81, " + letter, refusal, full, (x, a) -> x.letter(a[0]), letter);
        CHECK.due("the 80 letters stay", full.hall(), 20);
        CHECK.due("a letter behind them", full.letter(0), 1);
    }

    private static void promise3NothingIsCounted() {
        for (String text : new String[] {"", "x", "p0p5", "b60;", "p2p00;", "p0p00;b00;b10;b20;", "o0;"}) {
            BallsAtDodger x = new BallsAtDodger();
            String before = Check.readings(x);
            CHECK.holds("a fault: " + text, Check.tell(x, text) <= -1000);
            CHECK.holds("nothing is counted: " + text, Arrays.equals(new int[7], counted(x)));
            CHECK.holds("nothing comes, no letters stay: " + text, before.equals(Check.readings(x)));
        }
    }

    private static void promise4Player() {
        Call player = (x, a) -> x.player(a[0], a[1]);
        refused("player", NOBODY, player, of(-1, 0), of(7, 0), of(8, 6), of(LEAST, 0), of(MOST, 0), of(-1, 7), of(7, -1));
        refused("player", OTHER, player, of(0, -1), of(0, 7), of(6, 7), of(6, LEAST), of(0, MOST), of(4, 7));
        refused("player of nobody", NOBODY, new BallsAtDodger(), player, 0, 0);
        CHECK.due("the last, the last", scene().player(6, 6), 1);
        CHECK.due("one who is OUT", scene().player(4, 6), 5);
    }

    private static void promise5Ball() {
        Call ball = (x, a) -> x.ball(a[0], a[1]);
        refused("ball", NOBODY, ball, of(-1, 0), of(6, 0), of(6, 2), of(LEAST, 0), of(MOST, 0), of(-1, 3), of(6, -1));
        refused("ball", OTHER, ball, of(0, -1), of(0, 3), of(5, 3), of(5, LEAST), of(0, MOST));
        CHECK.due("the last, the last", scene().ball(5, 2), 0);
        CHECK.due("the first, the last", scene().ball(0, 2), 2);
    }

    private static void promise6Odds() {
        Call odds = (x, a) -> x.odds(a[0], a[1], a[2], a[3]);
        refused("odds", NOBODY, odds, of(-1, 1, 0, 0), of(7, 1, 0, 0), of(0, -1, 0, 0), of(0, 7, 0, 0), of(LEAST, 1, 0, 0),
            of(MOST, 1, 0, 0), of(0, LEAST, 0, 0), of(0, MOST, 0, 0), of(7, 7, 0, 0));
        refused("odds", OTHER, odds, of(0, 1, -1, 0), of(0, 1, 3, 0), of(0, 1, 0, -1), of(0, 1, 0, 3), of(0, 1, LEAST, 0),
            of(0, 1, MOST, 0), of(0, 1, 0, LEAST), of(0, 1, 0, MOST));
        refused("odds", STATE, odds, of(0, 2, 0, 0), of(1, 3, 2, 2), of(0, 0, 0, 0), of(1, 1, 0, 0), of(4, 1, 0, 0), of(5, 0, 0, 0),
            of(0, 5, 0, 0), of(1, 4, 0, 0), of(4, 5, 0, 0), of(4, 4, 0, 0));
        refused("odds, ahead of -2", NOBODY, odds, of(7, 1, 3, 0), of(0, 7, 0, 3), of(-1, 1, 0, -1), of(0, -1, -1, 0));
        refused("odds, ahead of -3", NOBODY, odds, of(7, 5, 0, 0), of(4, 7, 0, 0));
        refused("odds, ahead of -3", OTHER, odds, of(0, 2, 3, 0), of(0, 0, 0, 3), of(4, 1, -1, 0), of(0, 5, 0, -1));
        CHECK.due("the last of each", scene().odds(6, 3, 2, 2), 40 - 5 - 13);
        CHECK.due("the first of each", scene().odds(0, 1, 0, 0), 14 + 5 - 7);
    }

    private static void promise7ThrowIt() {
        Call throwIt = (x, a) -> x.throwIt(a[0], a[1], a[2], a[3]);
        refused("throwIt", NOBODY, throwIt, of(-1, 1, 0, 0), of(6, 1, 0, 0), of(0, -1, 0, 0), of(0, 7, 0, 0), of(LEAST, 1, 0, 0),
            of(MOST, 1, 0, 0), of(0, LEAST, 0, 0), of(0, MOST, 0, 0), of(6, 7, 0, 0));
        refused("throwIt", OTHER, throwIt, of(0, 1, -1, 0), of(0, 1, 3, 0), of(0, 1, 0, -1), of(0, 1, 0, 3), of(0, 1, LEAST, 0),
            of(0, 1, MOST, 0), of(0, 1, 0, LEAST), of(0, 1, 0, MOST));
        refused("throwIt that lies", STATE, throwIt, of(3, 0, 0, 0), of(3, 1, 0, 0), of(5, 1, 1, 1), of(5, 0, 2, 2));
        refused("throwIt at who is OUT", STATE, throwIt, of(0, 5, 0, 0), of(4, 4, 0, 0));
        refused("throwIt of one side", STATE, throwIt, of(0, 2, 0, 0), of(4, 3, 0, 0), of(0, 0, 0, 0), of(4, 1, 0, 0), of(0, 4, 0, 0));
        refused("throwIt, ahead of -2", NOBODY, throwIt, of(6, 1, 3, 0), of(0, 7, 0, 3), of(-1, 1, 0, -1), of(0, -1, -1, 0));
        refused("throwIt, ahead of -3", NOBODY, throwIt, of(6, 5, 0, 0), of(3, 7, 0, 0));
        refused("throwIt, ahead of -3", OTHER, throwIt, of(3, 0, 3, 0), of(0, 2, 0, 3), of(0, 5, -1, 0), of(0, 0, 0, -1));
        CHECK.due("the last how and end", scene().throwIt(4, 6, 2, 2), 3);
        CHECK.due("the first", scene().throwIt(0, 1, 0, 0), 3);
        BallsAtDodger x = scene();
        x.hall();
        Check.tell(x, "b51;");
        CHECK.due("the last ball", x.throwIt(5, 0, 1, 1), 3);
    }

    private static void promise8Take() {
        Call take = (x, a) -> x.take(a[0], a[1]);
        refused("take", NOBODY, take, of(-1, 5), of(7, 5), of(6, -1), of(6, 6), of(LEAST, 5), of(MOST, 5), of(6, LEAST), of(6, MOST), of(7, 6));
        refused("take by who is OUT", STATE, take, of(4, 5), of(5, 3));
        refused("take by who holds two", STATE, take, of(0, 5));
        refused("take from the other side", STATE, take, of(6, 3), of(3, 5));
        refused("take what is held", STATE, take, of(2, 2), of(6, 0), of(6, 2), of(6, 4), of(3, 4), of(3, 0));
        refused("take, ahead of -3", NOBODY, take, of(4, 6), of(7, 0), of(0, -1), of(-1, 3));
        CHECK.due("take by who holds none", scene().take(6, 5), 3);
        CHECK.due("take by who holds one", scene().take(2, 5), 3);
        CHECK.due("take on side 1", scene().take(1, 3), 3);
    }

    private static void promise9Pass() {
        Call pass = (x, a) -> x.pass(a[0]);
        refused("pass", BELOW, pass, of(0), of(-1), of(LEAST));
        refused("pass", ROOM, pass, of(51), of(MOST));
        CHECK.due("pass 1", scene().pass(1), 3);
        CHECK.due("pass 50", scene().pass(50), 52);
    }

    private static BallsAtDodger late(int tenth) {
        BallsAtDodger x = Check.hall("p0p55;p1q64;p0p33;");
        Check.passTo(x, tenth);
        Check.tell(x, "b00;b10;");
        return x;
    }

    private static void promises7To9AtTheLastTenth() {
        Call throwIt = (x, a) -> x.throwIt(a[0], a[1], a[2], a[3]);
        Call take = (x, a) -> x.take(a[0], a[1]);
        Call pass = (x, a) -> x.pass(a[0]);
        refused("throwIt at 9999", ROOM, late(9999), throwIt, 0, 1, 0, 0);
        refused("throwIt at 9999", ROOM, late(9999), throwIt, 1, 1, 2, 2);
        refused("throwIt at 9999, ahead of -6", NOBODY, late(9999), throwIt, 6, 1, 0, 0);
        refused("throwIt at 9999, ahead of -6", OTHER, late(9999), throwIt, 0, 1, 3, 0);
        refused("throwIt at 9999, ahead of -6", OTHER, late(9999), throwIt, 0, 1, 0, -1);
        refused("throwIt at 9999, ahead of -6", STATE, late(9999), throwIt, 2, 1, 0, 0);
        refused("throwIt at 9999, ahead of -6", STATE, late(9999), throwIt, 0, 2, 0, 0);
        refused("take at 9999", ROOM, late(9999), take, 2, 2);
        refused("take at 9999", ROOM, late(9999), take, 1, 5);
        refused("take at 9999, ahead of -6", NOBODY, late(9999), take, 3, 2);
        refused("take at 9999, ahead of -6", NOBODY, late(9999), take, 2, 6);
        refused("take at 9999, ahead of -6", STATE, late(9999), take, 0, 2);
        refused("take at 9999, ahead of -6", STATE, late(9999), take, 2, 3);
        refused("pass at 9999", ROOM, late(9999), pass, 1);
        refused("pass at 9999", ROOM, late(9999), pass, 50);
        refused("pass at 9999", BELOW, late(9999), pass, 0);
        refused("pass from 9998", ROOM, late(9998), pass, 2);
        refused("pass from 9950", ROOM, late(9950), pass, 50);
        CHECK.due("throwIt at 9998", late(9998).throwIt(0, 1, 0, 0), 9999);
        CHECK.due("take at 9998", late(9998).take(2, 2), 9999);
        CHECK.due("pass from 9998", late(9998).pass(1), 9999);
        CHECK.due("pass from 9950", late(9950).pass(49), 9999);
        CHECK.due("pass from 9949", late(9949).pass(50), 9999);
    }

    private static void promise10Best() {
        Call best = (x, a) -> small(x.best(a[0], a[1]));
        refused("best", NOBODY, best, of(-1, 0), of(7, 0), of(7, 1), of(LEAST, 0), of(MOST, 0));
        refused("best", OTHER, best, of(0, -1), of(0, 2), of(0, LEAST), of(0, MOST));
        refused("best of who holds none", STATE, best, of(6, 0), of(6, 1), of(3, 0), of(3, 1));
        refused("best of who is OUT", STATE, best, of(4, 0), of(5, 1));
        refused("best, ahead of -2", NOBODY, best, of(-1, -1), of(7, 2));
        refused("best, ahead of -3", OTHER, best, of(6, -1), of(6, 2), of(4, 2));
        CHECK.due("told as 1000000001", scene().best(7, 0), 1000000001);
        CHECK.due("told as 1000000002", scene().best(0, 2), 1000000002);
        CHECK.due("told as 1000000003", scene().best(6, 0), 1000000003);
        BallsAtDodger x = Check.hall("p0p55;b00;");
        CHECK.due("nobody there is no refusal", x.best(0, 0), -9);
        CHECK.holds("nor counted as one", Arrays.equals(new int[7], counted(x)));
    }

    private static void promise11Two() {
        Call two = (x, a) -> x.two(a[0], a[1], a[2], a[3]);
        refused("two", NOBODY, two, of(-1, 2, 1, 0), of(7, 2, 1, 0), of(0, -1, 1, 0), of(0, 7, 1, 0), of(0, 2, -1, 0), of(0, 2, 7, 0),
            of(LEAST, 2, 1, 0), of(0, MOST, 1, 0), of(0, 2, LEAST, 0), of(0, 2, MOST, 0));
        refused("two, one twice", NOBODY, two, of(0, 0, 1, 0), of(0, 2, 0, 0), of(0, 2, 2, 0), of(1, 1, 1, 0), of(4, 4, 1, 0));
        refused("two", OTHER, two, of(0, 2, 1, -1), of(0, 2, 1, 3), of(0, 2, 1, LEAST), of(0, 2, 1, MOST));
        refused("two, not all are IN", STATE, two, of(4, 0, 1, 0), of(0, 4, 1, 0), of(0, 2, 5, 0));
        refused("two, one holds none", STATE, two, of(6, 0, 1, 0), of(0, 6, 1, 0), of(1, 3, 0, 0), of(3, 1, 0, 0));
        refused("two, of one side, or of two", STATE, two, of(0, 1, 2, 0), of(1, 0, 2, 0), of(0, 1, 3, 0), of(0, 2, 6, 0), of(0, 2, 4, 0));
        refused("two, ahead of -2", NOBODY, two, of(7, 2, 1, 3), of(0, -1, 1, 3), of(0, 2, 7, -1), of(0, 0, 1, 3), of(0, 2, 2, 3), of(0, 2, 0, -1));
        refused("two, ahead of -3", NOBODY, two, of(7, 4, 1, 0), of(4, 7, 1, 0), of(0, 1, 7, 0), of(6, 6, 1, 0));
        refused("two, ahead of -3", OTHER, two, of(4, 0, 1, 3), of(6, 0, 1, -1), of(0, 1, 2, 3), of(0, 2, 5, 3));
        // 0 throws at 1 with HIT 12 LOW, 2 with 14 + 3 - 7 = 10; LOBBED 4 and 2.
        CHECK.due("low", scene().two(0, 2, 1, 0), 1600 - 28 * 30);
        CHECK.due("lobbed", scene().two(2, 0, 1, 2), 1600 - 36 * 38);
    }

    private static void promise12Worth() {
        Call worth = (x, a) -> small(x.worth(a[0]));
        refused("worth", NOBODY, worth, of(-1), of(7), of(LEAST), of(MOST));
        refused("worth of who is OUT", STATE, worth, of(4), of(5));
        CHECK.due("told as 1000000001", scene().worth(-1), 1000000001);
        CHECK.due("told as 1000000003", scene().worth(4), 1000000003);
    }

    private static long duel(BallsAtDodger x, int[] a) {
        return ofLong(x.duel(a[0], a[1], a[2], a[3], a[4], a[5]));
    }

    private static void promise13Duel() {
        int[] least = {1, 1, 1, 1, 1, 0};
        int[] most = {4, 4, 19, 19, 9, 3};
        for (int i = 0; i < 5; i++) {
            for (int below : new int[] {0, -1, LEAST}) {
                refused("duel", BELOW, RefusalTest::duel, with(least, i, below), with(most, i, below));
            }
            for (int above : new int[] {most[i] + 1, MOST}) {
                refused("duel", ROOM, RefusalTest::duel, with(least, i, above), with(most, i, above));
            }
            for (int j = 0; j < 5; j++) {
                if (j != i) {
                    refused("duel, ahead of -6", BELOW, RefusalTest::duel, with(with(least, i, 0), j, most[j] + 1));
                }
            }
            refused("duel, ahead of -2", BELOW, RefusalTest::duel, with(with(least, i, 0), 5, 4), with(with(most, i, 0), 5, -1));
            refused("duel, ahead of -2", ROOM, RefusalTest::duel, with(with(least, i, most[i] + 1), 5, 4), with(with(most, i, MOST), 5, -1));
        }
        refused("duel", OTHER, RefusalTest::duel, with(least, 5, -1), with(least, 5, 4), with(most, 5, LEAST), with(most, 5, MOST));
        CHECK.due("told as 4000000000000000004", scene().duel(0, 1, 1, 1, 1, 0), 4000000000000000004L);
        CHECK.due("told as 4000000000000000006", scene().duel(5, 1, 1, 1, 1, 0), 4000000000000000006L);
        CHECK.due("told as 4000000000000000002", scene().duel(1, 1, 1, 1, 1, 4), 4000000000000000002L);
        for (int i = 0; i < 5; i++) {
            long answer = scene().duel(most[0], most[1], most[2], most[3], most[4], i % 4);
            CHECK.holds("the greatest of all", answer < 4000000000000000000L);
        }
    }

    private static int[] with(int[] numbers, int place, int number) {
        int[] others = numbers.clone();
        others[place] = number;
        return others;
    }

    private static void promise14Game() {
        Call game = (x, a) -> ofLong(x.game(a[0], a[1], a[2]));
        refused("game", NOBODY, game, of(-1, 1, 0), of(7, 1, 0), of(0, -1, 0), of(0, 7, 1), of(LEAST, 1, 0), of(MOST, 1, 0),
            of(0, LEAST, 0), of(0, MOST, 0));
        refused("game", OTHER, game, of(0, 1, -1), of(0, 1, 2), of(0, 1, LEAST), of(0, 1, MOST));
        refused("game", STATE, game, of(0, 2, 0), of(1, 3, 1), of(0, 0, 0), of(4, 1, 0), of(0, 5, 1), of(4, 5, 0), of(5, 5, 1));
        refused("game, ahead of -2", NOBODY, game, of(7, 1, 2), of(0, -1, -1));
        refused("game, ahead of -3", NOBODY, game, of(7, 5, 0), of(4, 7, 0));
        refused("game, ahead of -3", OTHER, game, of(0, 2, 2), of(4, 1, -1), of(0, 5, 2));
        CHECK.due("told as 4000000000000000001", scene().game(7, 1, 0), 4000000000000000001L);
        CHECK.due("told as 4000000000000000002", scene().game(0, 1, 2), 4000000000000000002L);
        CHECK.due("told as 4000000000000000003", scene().game(0, 2, 0), 4000000000000000003L);
        CHECK.due("by one who holds none", scene().game(6, 3, 1), 1);
    }

    private static void promise15Row() {
        Call row = (x, a) -> x.row(a[0]);
        refused("row", BELOW, row, of(-1), of(LEAST));
        refused("row", ROOM, row, of(10000), of(MOST));
        CHECK.due("row 0", scene().row(0), 3);
        CHECK.due("row 9999", scene().row(9999), 3);
        refusedOf12Rows(ROOM, 102);
        refusedOf12Rows(ROOM, 10000);
        refusedOf12Rows(BELOW, -1);
    }

    private static void refusedOf12Rows(int refusal, int v) {
        BallsAtDodger full = scene();
        for (int i = 3; i <= 12; i++) {
            CHECK.due("row " + i, full.row(102), i);
        }
        refused("row 13, " + v, refusal, full, (x, a) -> x.row(a[0]), v);
        CHECK.due("the 12 stay", full.clear(), 12);
        CHECK.due("room again", full.row(102), 1);
    }

    private static void promise19Whose() {
        Call whose = (x, a) -> x.whose(a[0]);
        refused("whose", NOBODY, whose, of(-1), of(7), of(LEAST), of(MOST));
        refused("whose of who is OUT", STATE, whose, of(4), of(5));
        CHECK.due("the last", scene().whose(6), 2);
    }

    private static void promise20Waits() {
        Call waits = (x, a) -> x.waits(a[0], a[1]);
        refused("waits", NOBODY, waits, of(-1, 0), of(2, 0), of(LEAST, 0), of(MOST, 0));
        refused("waits", BELOW, waits, of(0, -1), of(1, -1), of(1, LEAST));
        refused("waits", ROOM, waits, of(0, 8), of(1, 8), of(1, MOST));
        refused("waits, ahead of -4", NOBODY, waits, of(-1, -1), of(2, -1));
        refused("waits, ahead of -6", NOBODY, waits, of(-1, 8), of(2, 8));
        CHECK.due("place 0", scene().waits(1, 0), 5);
        CHECK.due("place 7", scene().waits(0, 7), -9);
    }

    private static void promise21Lots() {
        Call lots = (x, a) -> x.lots(a[0], a[1]);
        refused("lots", BELOW, lots, of(0, 7), of(-1, 7), of(LEAST, 7));
        refused("lots", ROOM, lots, of(31, 7), of(MOST, 7));
        refused("lots of nobody", STATE, new BallsAtDodger(), lots, 1, 7);
        refused("lots of nobody", STATE, new BallsAtDodger(), lots, 30, LEAST);
        refused("lots of nobody, ahead of -3", BELOW, new BallsAtDodger(), lots, 0, 7);
        refused("lots of nobody, ahead of -3", ROOM, new BallsAtDodger(), lots, 31, 7);
        CHECK.holds("lots 1", scene().lots(1, MOST) >= 0);
        CHECK.holds("lots 30", scene().lots(30, LEAST) >= 0);
        CHECK.due("lots of those who are OUT", Check.hall("p0p55;p1p55;o0;o1;").lots(30, 7), 0);
    }

    private static void promise23On() {
        Call on = (x, a) -> x.on();
        BallsAtDodger x = Check.hall(PLAYERS);
        refused("on without an image", STATE, x, on);
        refused("on without an image", STATE, x, on);
        CHECK.due("an image", x.image(), 0);
        CHECK.due("on from it", x.on(), 0);
        CHECK.due("two were refused", x.count(13), 2);
    }

    private static void callsThatAreNeverRefused() {
        BallsAtDodger x = scene();
        x.hall();
        x.judge();
        x.ends();
        x.image();
        x.clear();
        x.clear();
        x.judge();
        x.ends();
        for (int what : new int[] {LEAST, -1, 8, 9, 10, 17, 18, MOST}) {
            CHECK.due("another what", x.count(what), -9);
        }
        x.ball(3, 0);
        x.ball(0, 1);
        x.waits(0, 7);
        CHECK.holds("nothing is counted", Arrays.equals(new int[7], counted(x)));
    }

    private static void refusalsAreCountedEachForItself() {
        BallsAtDodger x = scene();
        for (int i = 0; i < 20; i++) {
            x.ball(6, 0);
            x.ball(0, 3 + (i & 1));
            if (i % 2 == 0) {
                x.take(0, 5);
            }
            if (i % 4 == 0) {
                x.pass(0);
            }
            if (i % 5 == 0) {
                x.pass(51);
                x.worth(4);
                x.game(7, 0, 0);
            }
        }
        CHECK.holds("each for itself", Arrays.equals(new int[] {0, 24, 20, 14, 5, 0, 4}, counted(x)));
    }
}
