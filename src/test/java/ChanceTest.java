/** Promises 13, 14 and 21: DUEL, CATCH or dodge, LOTS. */
public final class ChanceTest {
    private static final Check CHECK = new Check("ChanceTest");
    private static final long BIG = 4000000000000000000L;

    public static void main(String[] args) {
        promise13Duel();
        promise13AgainstAllWays();
        promise13Refusals();
        promise14Game();
        promise14Refusals();
        promise21LotsByHand();
        promise21LotsAgainstThrows();
        promise21Refusals();
        CHECK.end();
    }

    private static void promise13Duel() {
        BallsAtDodger x = new BallsAtDodger();
        long[] firstThrow = {1, 4, 1, 8};
        // Behind two: 10/40 + 25/40 * 5/40 = 21/64 and 5/40 + 25/40 * 10/40 = 9/32.
        long[] secondThrow = {21, 64, 9, 32};
        for (int what = 0; what < 4; what++) {
            CHECK.due("one throw, " + what, x.duel(1, 1, 10, 5, 1, what), firstThrow[what]);
            CHECK.due("two throws, " + what, x.duel(1, 1, 10, 5, 2, what), secondThrow[what]);
        }
        CHECK.due("two can't be out by one throw", x.duel(2, 2, 19, 19, 1, 0), 0);
        CHECK.due("0 in least terms", x.duel(2, 2, 19, 19, 1, 1), 1);
        CHECK.due("0 in least terms", x.duel(2, 2, 19, 19, 1, 3), 1);
        CHECK.due("3 beats 1 more", x.duel(4, 1, 1, 1, 9, 0) > 0 ? 1 : 0, 1);
    }

    private static void promise13AgainstAllWays() {
        BallsAtDodger x = new BallsAtDodger();
        int[][] duels = {{1, 1, 1, 1, 9}, {2, 1, 7, 3, 5}, {1, 2, 7, 3, 5}, {3, 2, 19, 1, 8}, {2, 3, 1, 19, 8}, {4, 4, 19, 19, 9},
            {4, 4, 13, 7, 9}, {4, 1, 2, 18, 6}, {1, 4, 8, 8, 7}, {3, 3, 17, 4, 9}, {2, 2, 10, 10, 4}};
        for (int[] d : duels) {
            long all = 1;
            for (int i = 0; i < d[4]; i++) {
                all *= 40;
            }
            for (int side = 0; side < 2; side++) {
                long ways = ways(d[0], d[1], d[2], d[3], d[4], 0, side);
                long divisor = divisor(ways, all);
                String name = "duel " + java.util.Arrays.toString(d) + " of " + side;
                CHECK.due(name + " above", x.duel(d[0], d[1], d[2], d[3], d[4], 2 * side), ways / divisor);
                CHECK.due(name + " below", x.duel(d[0], d[1], d[2], d[3], d[4], 2 * side + 1), all / divisor);
            }
        }
    }

    private static long ways(int a, int b, int h, int c, int left, int thrower, int winner) {
        if (a == 0 || b == 0) {
            if ((winner == 0) != (b == 0)) {
                return 0;
            }
            return left == 0 ? 1 : 40 * ways(a, b, h, c, left - 1, thrower, winner);
        }
        if (left == 0) {
            return 0;
        }
        int otherSide = 1 - thrower;
        long hit = ways(a - thrower, b - otherSide, h, c, left - 1, otherSide, winner);
        long caught = ways(a - otherSide, b - thrower, h, c, left - 1, otherSide, winner);
        long missed = ways(a, b, h, c, left - 1, otherSide, winner);
        return h * hit + c * caught + (40 - h - c) * missed;
    }

    private static long divisor(long a, long b) {
        return b == 0 ? a : divisor(b, a % b);
    }

    private static void promise13Refusals() {
        BallsAtDodger x = new BallsAtDodger();
        int[] right = {1, 1, 1, 1, 1};
        int[] most = {4, 4, 19, 19, 9};
        for (int i = 0; i < 5; i++) {
            int[] below = right.clone();
            below[i] = 0;
            int[] above = right.clone();
            above[i] = most[i] + 1;
            CHECK.due("below " + i, duel(x, below, 4), BIG + 4);
            CHECK.due("above " + i, duel(x, above, 4), BIG + 6);
            above[(i + 1) % 5] = -1;
            CHECK.due("below, and above " + i, duel(x, above, 0), BIG + 4);
        }
        CHECK.due("other", duel(x, right, 4), BIG + 2);
        CHECK.due("other", duel(x, right, -1), BIG + 2);
        CHECK.due("greatest", duel(x, most, 3) > 0 ? 1 : 0, 1);
        CHECK.due("counted", x.count(14) * 100 + x.count(16) * 10 + x.count(12), 1000 + 50 + 2);
    }

    private static long duel(BallsAtDodger x, int[] d, int what) {
        return x.duel(d[0], d[1], d[2], d[3], d[4], what);
    }

    private static void promise14Game() {
        BallsAtDodger x = Check.hall("p0p55;p1q64;p1c37;p0l55;o0;");
        // 3 at 1: LOW 12 and 2: 12 dodged, 14 tried. 3 at 2: LOW 12 and 6: 12 dodged, 6 tried.
        CHECK.due("dodged", x.game(3, 1, 0), 12);
        CHECK.due("tried", x.game(3, 2, 0), 6);
        CHECK.due("below", x.game(3, 2, 1), 1);
        // 2 at 3, who is alone: LOW 10 + 3 - 5 + 4 = 12 and 15: 12 + 6 - 30.
        CHECK.due("below 0", x.game(2, 3, 0), -12);
        CHECK.due("below 0", x.game(2, 3, 1), 1);
        mixedBestIsNeverMore();
    }

    /** By the odds that the object tells itself: what each mixing by 60ths gets at least is never more than game(). */
    private static void mixedBestIsNeverMore() {
        for (int arm = 0; arm <= 9; arm += 3) {
            for (int eye = 0; eye <= 9; eye += 3) {
                BallsAtDodger x = Check.hall("p0p" + arm + "5;p1c" + eye + arm + ";");
                long most = Long.MIN_VALUE;
                for (int lobbed = 0; lobbed <= 60; lobbed++) {
                    long dodged = (60 - lobbed) * x.odds(0, 1, 0, 0) + lobbed * x.odds(0, 1, 2, 0);
                    long tried = dodged + 360 - 2 * ((60 - lobbed) * x.odds(0, 1, 0, 1) + lobbed * x.odds(0, 1, 2, 1));
                    most = Math.max(most, Math.min(dodged, tried));
                }
                CHECK.due("most in the mean, 60 times", 60 * x.game(0, 1, 0), most);
            }
        }
    }

    private static void promise14Refusals() {
        BallsAtDodger x = Check.hall("p0p55;p1q64;p1c37;p0l55;o0;");
        CHECK.due("nobody", x.game(4, 1, 2), BIG + 1);
        CHECK.due("nobody", x.game(3, -1, 0), BIG + 1);
        CHECK.due("other", x.game(3, 1, 2), BIG + 2);
        CHECK.due("other", x.game(0, 1, -1), BIG + 2);
        CHECK.due("out", x.game(0, 1, 0), BIG + 3);
        CHECK.due("out", x.game(1, 0, 1), BIG + 3);
        CHECK.due("one side", x.game(1, 2, 0), BIG + 3);
        CHECK.due("himself", x.game(1, 1, 0), BIG + 3);
    }

    /** One lot each, its draws told one after another. */
    private static void promise21LotsByHand() {
        BallsAtDodger x = Check.hall("p0p99;p1p00;b00;b10;b21;b31;");
        for (int z = -3; z < 40; z++) {
            int seed = z * 1664525 + 1013904223;
            int ball = (seed & 0x7fffffff) / 256 % 6;
            seed = seed * 1664525 + 1013904223;
            int whom = (seed & 0x7fffffff) / 256 % 2;
            seed = seed * 1664525 + 1013904223;
            int how = (seed & 0x7fffffff) / 256 % 3;
            seed = seed * 1664525 + 1013904223;
            int lot = (seed & 0x7fffffff) / 256 % 40;
            int want = 3;
            int who = ball < 2 ? 0 : ball < 4 ? 1 : whom;
            if (who != whom) {
                int hit = x.odds(who, whom, how, 0);
                int caught = x.odds(who, whom, how, 1);
                want = lot < hit ? 1 << who : lot < hit + caught ? 1 << whom : 3;
            }
            CHECK.due("lots(1, " + z + ")", x.lots(1, z), want);
        }
        CHECK.due("nothing changes", x.count(3), 0);
    }

    /** The same lots played by throwIt() on a like object. */
    private static void promise21LotsAgainstThrows() {
        String letters = "p0p99;p1t94;p0l55;p1w73;p0q84;p1c66;b00;b10;b21;b33;b43;b54;";
        for (int z = -5000; z < 5000; z += 97) {
            BallsAtDodger x = Check.hall(letters);
            BallsAtDodger played = Check.hall(letters);
            x.pass(8);
            played.pass(8);
            int seed = z * 99991;
            CHECK.due("lots(30, " + seed + ")", x.lots(30, seed), playLots(played, 30, seed));
        }
    }

    private static int playLots(BallsAtDodger x, int n, int seed) {
        int[] z = {seed};
        for (int i = 0; i < n; i++) {
            int ball = draw(z, 6);
            int whom = draw(z, x.count(0));
            int how = draw(z, 3);
            int who = x.ball(ball, 0);
            int hit = who < 0 ? -3 : x.odds(who, whom, how, 0);
            if (hit >= 0) {
                int caught = x.odds(who, whom, how, 1);
                int lot = draw(z, 40);
                x.throwIt(ball, whom, how, lot < hit ? 0 : lot < hit + caught ? 1 : 2);
            }
        }
        int in = 0;
        for (int player = 0; player < x.count(0); player++) {
            in += x.player(player, 2) << player;
        }
        return in;
    }

    private static int draw(int[] z, int m) {
        z[0] = z[0] * 1664525 + 1013904223;
        return (z[0] & 0x7fffffff) / 256 % m;
    }

    private static void promise21Refusals() {
        BallsAtDodger x = new BallsAtDodger();
        CHECK.due("below", x.lots(0, 1), -4);
        CHECK.due("below", x.lots(-5, 1), -4);
        CHECK.due("room", x.lots(31, 1), -6);
        CHECK.due("no players", x.lots(30, 1), -3);
        CHECK.due("no players", x.lots(1, 1), -3);
        Check.tell(x, "p0p00;");
        CHECK.due("one player", x.lots(30, Integer.MIN_VALUE), 1);
    }
}
