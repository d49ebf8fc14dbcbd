/** The boundary cases that the document names under "==== II." and in promises 10 to 24, but for REFUSALS. */
public final class EdgesOfAnswersTest {
    private static final Check CHECK = new Check("EdgesOfAnswersTest");
    private static final String EIGHT = "p0p00;p1p11;p0p22;p1p33;p0p44;p1p55;p0p66;p1p77;";
    private static final long SEEDS = 1L << 32;

    private interface Question {
        long of(BallsAtDodger x, int player);
    }

    private static final Question[] QUESTIONS = {
        (x, p) -> x.player(p, 0), (x, p) -> x.player(p, 1), (x, p) -> x.player(p, 2), (x, p) -> x.player(p, 3),
        (x, p) -> x.player(p, 4), (x, p) -> x.player(p, 5), (x, p) -> x.player(p, 6),
        (x, p) -> x.ball(p, 0), (x, p) -> x.ball(p, 1), (x, p) -> x.ball(p, 2),
        (x, p) -> x.odds(p, 0, 0, 0), (x, p) -> x.odds(p, 0, 0, 1), (x, p) -> x.odds(p, 1, 2, 2), (x, p) -> x.odds(0, p, 0, 0),
        (x, p) -> x.odds(1, p, 1, 1), (x, p) -> x.throwIt(1, p, 0, 1), (x, p) -> x.throwIt(p, 1, 0, 0), (x, p) -> x.throwIt(0, p, 0, 2),
        (x, p) -> x.take(p, 2), (x, p) -> x.take(6, p), (x, p) -> x.take(3, p), (x, p) -> x.pass(p),
        (x, p) -> x.best(p, 0), (x, p) -> x.best(p, 1), (x, p) -> x.two(p, 4, 1, 0), (x, p) -> x.two(0, p, 1, 1),
        (x, p) -> x.two(1, 3, p, 2), (x, p) -> x.worth(p), (x, p) -> x.game(p, 0, 0), (x, p) -> x.game(p, 1, 1),
        (x, p) -> x.game(0, p, 0), (x, p) -> x.judge(), (x, p) -> x.ends(), (x, p) -> x.clear(), (x, p) -> x.whose(p),
        (x, p) -> x.waits(1, p), (x, p) -> x.lots(p, p * 99991), (x, p) -> x.lots(30, p), (x, p) -> x.image(), (x, p) -> x.on(),
        (x, p) -> x.count(p), (x, p) -> Check.readings(x).hashCode()};

    public static void main(String[] args) {
        bestAtNobody();
        bestBelow0();
        bestOfSeveralIsTheLeast();
        bestAt0();
        bestIsTheGreatest();
        twoLeastAndMost();
        worthOfTheOnlyOne();
        worthBesideALast();
        worthOfThoseWhoAreIn();
        duelWithinItsBounds();
        duelCanNotEndInTime();
        gameAboutThreeCaught();
        gameBelow0();
        rowOfTwelveThatAllCanBe();
        rowDigitsOutOfRange();
        rowOfNone();
        rowStaysAsItWas();
        whoseOfSeveralAndNone();
        waitsForAllEight();
        lotsAtTheEndsOfInt();
        lotsOfOneAndOfThirty();
        lotsWithOneAndEight();
        lotsInMind();
        lotsByWhatIsInMind();
        answersTellWhatIsNow();
        bestTellsWhatIsNow();
        imageOfANewObject();
        imageIsAllThatThereIs();
        imageTakenAgain();
        countsFromNoneToAll();
        CHECK.end();
    }

    /** "-9 (both) there is nobody". */
    private static void bestAtNobody() {
        BallsAtDodger x = Check.hall("p0p55;p0p11;b00;");
        CHECK.due("nobody has come", x.best(0, 0), -9);
        CHECK.due("nobody has come", x.best(0, 1), -9);
        Check.tell(x, "p1p55;p1p66;o2;");
        CHECK.due("one is in", x.best(0, 0), 30);
        Check.tell(x, "o3;");
        CHECK.due("all are out", x.best(0, 0), -9);
        CHECK.due("all are out", x.best(0, 1), -9);
        CHECK.due("nothing is refused", x.count(11) + x.count(12) + x.count(13), 0);
    }

    private static void bestBelow0() {
        // LOW: HIT 14 - 9, CAUGHT (3 + 9) / 2 + 4 - 3: 5 - 14; the others are less.
        BallsAtDodger x = Check.hall("p0p00;p1c39;b00;");
        CHECK.due("whom and how", x.best(0, 0), 10);
        CHECK.due("the number is -9", x.best(0, 1), -9);
        // LOW: HIT 14 - 9, CAUGHT 19 (26 - 3): 5 - 38.
        x = Check.hall("p1p00;p0l99;b30;");
        CHECK.due("whom and how", x.best(0, 0), 10);
        CHECK.due("the least number", x.best(0, 1), -33);
        // LOW: HIT 14 + 1 - 9, CAUGHT (4 + 9) / 2 - 3: 6 - 6; the others are less.
        x = Check.hall("p0p15;p1p49;b00;");
        CHECK.due("the number is 0", x.best(0, 1), 0);
        CHECK.due("whom and how", x.best(0, 0), 10);
    }

    /** "of several the least". */
    private static void bestOfSeveralIsTheLeast() {
        BallsAtDodger x = Check.hall("p1p55;p0p22;p0p22;p0p22;b00;");
        CHECK.due("three are alike", x.best(0, 0), 10);
        Check.tell(x, "o1;");
        CHECK.due("two are alike", x.best(0, 0), 20);
        // At 1 LOW and HIGH are HIT 19, CAUGHT 1 both.
        x = Check.hall("p1p90;p0p00;p0p11;b00;");
        CHECK.due("LOW and HIGH are alike, and two", x.best(0, 0), 10);
        CHECK.due("number", x.best(0, 1), 17);
        // HIT 16 LOW at 1, at 2 HIT 20 cut to 19; CAUGHT 1 both.
        x = Check.hall("p1p44;p0p02;p0q00;p0p11;b00;");
        CHECK.due("unlike ones with one number", x.best(0, 0), 30);
        Check.tell(x, "o3;");
        CHECK.due("the next", x.best(0, 0), 10);
        CHECK.due("its number", x.best(0, 1), 16 - 2);
    }

    /** 0, that is 0 LOW, is an answer as others are. */
    private static void bestAt0() {
        BallsAtDodger x = Check.hall("p0p00;p1p22;p0p00;b01;b10;");
        CHECK.due("at 0, LOW", x.best(1, 0), 0);
        CHECK.due("its number", x.best(1, 1), 14 + 2 - 2);
        Check.tell(x, "p0p90;o2;");
        CHECK.due("at 0, not at a better catcher", x.best(1, 0), 0);
        Check.tell(x, "o0;");
        CHECK.due("at the other", x.best(1, 0), 30);
        CHECK.due("its number", x.best(1, 1), 14 + 2 - 2);
        x = Check.hall("p0p08;p1p22;p0p09;b01;");
        CHECK.due("at 0, who dodges less", x.best(1, 0), 0);
        Check.tell(x, "p0p07;");
        CHECK.due("at one who dodges still less", x.best(1, 0), 30);
    }

    private static void bestIsTheGreatest() {
        BallsAtDodger x = Check.hall("p0p55;p1p09;p1p08;p1p07;p1p06;p1p05;p1p04;p1p00;b00;");
        int[] best = {70, 60, 50, 40, 30, 20, 10};
        int[] number = {17, 13, 12, 11, 10, 9, 8};
        for (int i = 0; i < 7; i++) {
            CHECK.due("whom and how", x.best(0, 0), best[i]);
            CHECK.due("number", x.best(0, 1), number[i]);
            Check.tell(x, "o" + (7 - i) + ";");
        }
        CHECK.due("nobody is left", x.best(0, 0), -9);
    }

    /** "in how many 1600ths he is HIT by one at least". */
    private static void twoLeastAndMost() {
        BallsAtDodger x = Check.hall("p0p00;p0p00;p1w09;b00;b11;b52;");
        CHECK.due("1 and 1 of 40", x.two(0, 1, 2, 0), 1600 - 39 * 39);
        CHECK.due("1 and 1 of 40, lobbed", x.two(1, 0, 2, 2), 1600 - 39 * 39);
        x = Check.hall("p1p90;p1p90;p0p00;b00;b11;");
        CHECK.due("19 and 19 of 40", x.two(0, 1, 2, 0), 1600 - 21 * 21);
        CHECK.due("he holds none, that is told at", x.player(2, 3), 0);
        x = Check.hall("p1p90;p1p00;p0p90;b00;b11;b20;b31;");
        CHECK.due("19 and 14 of 40, two held by each", x.two(0, 1, 2, 0), 1600 - 21 * 26);
        CHECK.due("19 and 12 of 40, high", x.two(0, 1, 2, 1), 1600 - 21 * 28);
    }

    /** "all THROWS LOW of each IN of the other SIDE at each IN of his ... if he were OUT". */
    private static void worthOfTheOnlyOne() {
        BallsAtDodger x = Check.hall("p0p55;p1p44;");
        // 1 at 0: HIT 14 + 4 - 5, CAUGHT 2. Without him nobody is left: 0.
        CHECK.due("he is the only one", x.worth(0), -(13 - 4));
        CHECK.due("he is the only one", x.worth(1), -(15 - 2));
        Check.tell(x, "o1;");
        CHECK.due("nobody is in on the other side", x.worth(0), 0);
        CHECK.due("nobody has come on the other side", Check.hall("p1l55;p1p00;").worth(1), 0);
    }

    private static void worthBesideALast() {
        // 2 (HIT 14 + 5 - 4 = 15) at 0: CAUGHT (8 - 3) beside others, 16 - 3 alone. At 1: 15 and 1.
        BallsAtDodger x = Check.hall("p0l54;p0p04;p1p50;");
        CHECK.due("beside one", x.worth(1), -2 * 13 + 2 * 5 - (15 - 2));
        CHECK.due("the last himself", x.worth(0), -(15 - 10));
        Check.tell(x, "p0p04;");
        CHECK.due("beside two", x.worth(1), -(15 - 2));
        Check.tell(x, "o3;");
        CHECK.due("beside one, and one who is out", x.worth(1), -2 * 13 + 2 * 5 - (15 - 2));
        Check.tell(x, "o1;");
        CHECK.due("alone", x.worth(0), -(15 - 26));
        String before = Check.readings(x);
        x.worth(0);
        x.worth(2);
        CHECK.holds("he is not out by it", before.equals(Check.readings(x)));
    }

    /** "(whether they hold BALLS or not)"; those who are OUT count nothing. */
    private static void worthOfThoseWhoAreIn() {
        BallsAtDodger x = Check.hall("p0w22;p1p30;p1p90;p1t50;o3;");
        // At 0: DODGE 5: HIT 12 and 18, CAUGHT 1.
        CHECK.due("at who holds none", x.worth(0), -(12 - 2) - (18 - 2));
        Check.tell(x, "b00;b10;");
        CHECK.due("at who holds two", x.worth(0), -(10 - 2) - (16 - 2));
        Check.tell(x, "b31;");
        CHECK.due("by one who holds one", x.worth(0), -(10 - 2) - (16 - 2));
        Check.tell(x, "p1t50;");
        CHECK.due("by a tired one, too", x.worth(0), -(10 - 2) - (16 - 2) - (12 - 2));
        Check.tell(x, "g00;g10;g30;");
        x.pass(10);
        CHECK.due("who is more tired", x.worth(0), -(12 - 2) - (18 - 2) - (13 - 2));
    }

    /** "1 .. 4 each ... h, c 1 .. 19 ... within n THROWS (1 .. 9)": all ends of these, against all ways. */
    private static void duelWithinItsBounds() {
        int[] odds = {1, 10, 19};
        for (int a = 1; a <= 4; a++) {
            for (int b = 1; b <= 4; b++) {
                for (int n = 1; n <= 9; n++) {
                    BallsAtDodger x = new BallsAtDodger();
                    for (int i = 0; i < 9; i++) {
                        lookAtDuel(x, new int[] {a, b, odds[i / 3], odds[i % 3], n});
                    }
                }
            }
        }
    }

    private static void lookAtDuel(BallsAtDodger x, int[] d) {
        long all = 1;
        for (int i = 0; i < d[4]; i++) {
            all *= 40;
        }
        for (int side = 0; side <= 1; side++) {
            long won = won(d[0], d[1], d, d[4], 0, side);
            long divisor = java.math.BigInteger.valueOf(won).gcd(java.math.BigInteger.valueOf(all)).longValue();
            String name = "duel " + java.util.Arrays.toString(d) + " of " + side;
            CHECK.due(name + ", above", x.duel(d[0], d[1], d[2], d[3], d[4], 2 * side), won / divisor);
            CHECK.due(name + ", below", x.duel(d[0], d[1], d[2], d[3], d[4], 2 * side + 1), all / divisor);
        }
    }

    /** In how many of 40 ways each THROW a SIDE has won, when so many THROWS are left. */
    private static long won(int a, int b, int[] d, int left, int thrower, int side) {
        if (a == 0 || b == 0) {
            long ways = (side == 0 ? b : a) == 0 ? 1 : 0;
            for (int i = 0; i < left; i++) {
                ways *= 40;
            }
            return ways;
        }
        if (left < (side == 0 ? b : a)) {
            return 0;
        }
        int ofThrower = thrower == 0 ? d[3] : d[2];
        int ofOther = 40 - (40 - d[2] - d[3]) - ofThrower;
        return ofThrower * won(a - 1, b, d, left - 1, 1 - thrower, side) + ofOther * won(a, b - 1, d, left - 1, 1 - thrower, side)
            + (40 - d[2] - d[3]) * won(a, b, d, left - 1, 1 - thrower, side);
    }

    private static void duelCanNotEndInTime() {
        BallsAtDodger x = new BallsAtDodger();
        for (int many = 2; many <= 4; many++) {
            CHECK.due("too few throws", x.duel(4, many, 19, 19, many - 1, 0), 0);
            CHECK.due("as a fraction in least terms", x.duel(4, many, 19, 19, many - 1, 1), 1);
            CHECK.due("too few throws", x.duel(many, 4, 19, 19, many - 1, 2), 0);
            CHECK.due("as a fraction in least terms", x.duel(many, 4, 19, 19, many - 1, 3), 1);
            CHECK.holds("throws enough", x.duel(4, many, 1, 1, many, 0) > 0);
            CHECK.holds("throws enough", x.duel(many, 4, 1, 1, many, 2) > 0);
        }
        CHECK.due("side 0 throws first", x.duel(1, 1, 19, 1, 1, 0), 19);
        CHECK.due("of 40", x.duel(1, 1, 19, 1, 1, 1), 40);
        CHECK.due("and is caught", x.duel(1, 1, 19, 1, 1, 2), 1);
        CHECK.due("of 40", x.duel(1, 1, 19, 1, 1, 3), 40);
        CHECK.due("2 of 4 players", x.duel(1, 1, 10, 10, 1, 0), 1);
        CHECK.due("in least terms", x.duel(1, 1, 10, 10, 1, 1), 4);
    }

    /** "HIT of the THROW, if he dodges; if he tries, HIT and 6 less twice CAUGHT": LOW, CAUGHT 3 makes both one. */
    private static void gameAboutThreeCaught() {
        String[] targets = {"p1p44", "p1p54", "p1p64", "p1p74", "p1p84", "p1p94", "p1c64", "p1c84"};
        long[] want = {10, 10, 10, 10, 10, 10, 4, 2};
        for (int i = 0; i < targets.length; i++) {
            BallsAtDodger x = Check.hall("p0p00;p1p00;" + targets[i] + ";");
            CHECK.due("game at " + targets[i], x.game(0, 2, 0), want[i]);
            CHECK.due("below", x.game(0, 2, 1), 1);
        }
        // GRASP 5, 6, 7 of (7 + 4) / 2, (8 + 4) / 2, (9 + 5) / 2: CAUGHT 2, 3, 4.
        CHECK.due("caught 2: dodged", Check.hall("p0p90;p1p74;").game(0, 1, 0), 19);
        CHECK.due("caught 3: both", Check.hall("p0p90;p1p84;").game(0, 1, 0), 19);
        CHECK.due("caught 4: tried", Check.hall("p0p90;p1p95;").game(0, 1, 0), 18 - 2);
        CHECK.due("he may hold one", Check.hall("p0p90;p1p95;b00;b51;").game(0, 1, 0), 18 - 2);
    }

    /** "above (may be below 0)". */
    private static void gameBelow0() {
        BallsAtDodger x = Check.hall("p0p00;p1l99;");
        CHECK.due("the least", x.game(0, 1, 0), 5 + 6 - 38);
        CHECK.due("below", x.game(0, 1, 1), 1);
        // HIT 14 - 6, CAUGHT (8 + 6) / 2 + 4 - 3 = 8: 8 + 6 - 16 = -2; HIT 14 - 4, CAUGHT (8 + 4) / 2 + 4 - 3 = 7: 10 + 6 - 14.
        CHECK.due("a little below", Check.hall("p0p00;p1c86;").game(0, 1, 0), -2);
        CHECK.due("a little above", Check.hall("p0p00;p1c84;p1p00;").game(0, 1, 0), 2);
        // HIT 14 - 6, CAUGHT (6 + 6) / 2 + 4 - 3 = 7: 8 + 6 - 14.
        x = Check.hall("p0p00;p1c66;");
        CHECK.due("0", x.game(0, 1, 0), 0);
        CHECK.due("below 0 there is 1", x.game(0, 1, 1), 1);
    }

    /** "12 at most": the BALL goes round by catching. */
    private static void rowOfTwelveThatAllCanBe() {
        BallsAtDodger x = Check.hall("p0p55;p1p55;p0p55;p1p55;b00;");
        int[] round = {101, 1201, 2301, 3001};
        int[] in = {15, 14, 13, 11, 7};
        for (int i = 1; i <= 12; i++) {
            CHECK.due("row " + i, x.row(round[(i - 1) % 4]), i);
            CHECK.due("all can be", x.judge(), -9);
            CHECK.due("ends behind " + i, x.ends(), in[(i - 1) % 4 + 1]);
        }
        CHECK.due("no room", x.row(101), -6);
        CHECK.due("the 12 all can be", x.judge(), -9);
        x.clear();
        for (int i = 1; i <= 12; i++) {
            x.row(i == 12 ? 3002 + 100 : round[(i - 1) % 4]);
        }
        CHECK.due("the last can not be", x.judge(), 11);
        CHECK.due("behind the eleven ahead of it", x.ends(), 11);
        x.clear();
        x.row(0);
        for (int i = 0; i < 11; i++) {
            x.row(round[i % 4]);
        }
        CHECK.due("the first can not be", x.judge(), 0);
        CHECK.due("behind none", x.ends(), 15);
    }

    private static void rowDigitsOutOfRange() {
        BallsAtDodger x = Check.hall(EIGHT + "b07;b16;");
        int[] can = {7000, 7600, 7001, 7002, 7010, 7020, 7622, 6100, 6722};
        int[] cannot = {7003, 7009, 7030, 7090, 7100, 7700, 7800, 7900, 8000, 8100, 9000, 9900, 9999, 6000, 6600, 0, 5000, 7603, 7630};
        for (int v : can) {
            x.row(v);
            CHECK.due("can be: " + v, x.judge(), -9);
            x.clear();
        }
        for (int v : cannot) {
            x.row(v);
            CHECK.due("can not be: " + v, x.judge(), 0);
            CHECK.due("all are in: " + v, x.ends(), 255);
            x.clear();
        }
        everyRowOfOne();
        x = Check.hall("p0p55;p1p55;b00;b51;");
        for (int v : new int[] {200, 2000, 2100, 900}) {
            x.row(v);
            CHECK.due("nobody has come so far: " + v, x.judge(), 0);
            x.clear();
        }
    }

    /** 0 .. 9999: 7 (of SIDE 1) and 6 (of SIDE 0) hold a BALL each, and all are IN. */
    private static void everyRowOfOne() {
        BallsAtDodger x = null;
        for (int v = 0; v <= 9999; v++) {
            if (v % 100 == 0) {
                x = Check.hall(EIGHT + "b07;b16;");
            }
            int who = v / 1000;
            int whom = v / 100 % 10;
            boolean opposed = (who == 6 || who == 7) && whom < 8 && who % 2 != whom % 2;
            boolean can = opposed && v / 10 % 10 < 3 && v % 10 < 3;
            x.row(v);
            CHECK.due("judged: " + v, x.judge(), can ? -9 : 0);
            x.clear();
        }
    }

    /** "JUDGED ...; -9", "ENDS ... (all, if all can be)": of none. */
    private static void rowOfNone() {
        BallsAtDodger x = new BallsAtDodger();
        CHECK.due("nobody, no throws", x.judge(), -9);
        CHECK.due("nobody, no throws", x.ends(), 0);
        x.row(100);
        CHECK.due("nobody throws", x.judge(), 0);
        CHECK.due("nobody is in", x.ends(), 0);
        CHECK.due("one", x.clear(), 1);
        Check.tell(x, EIGHT);
        CHECK.due("no throws", x.judge(), -9);
        CHECK.due("all eight", x.ends(), 255);
        Check.tell(x, "o7;o0;");
        CHECK.due("but two", x.ends(), 126);
        CHECK.due("none", x.clear(), 0);
    }

    private static void rowStaysAsItWas() {
        BallsAtDodger x = Check.hall("p0p55;p1p55;b00;b51;");
        x.row(102);
        x.row(1000);
        for (int i = 0; i < 3; i++) {
            CHECK.due("judged again", x.judge(), -9);
            CHECK.due("ends again", x.ends(), 2);
            CHECK.due("the row stays", x.count(6), 2);
        }
        CHECK.due("nothing was thrown", x.player(0, 3), 1);
        CHECK.due("the image stays none", x.on(), -3);
        x.throwIt(0, 1, 0, 2);
        CHECK.due("told by what is now", x.judge(), 0);
        CHECK.due("told by what is now", x.ends(), 3);
        CHECK.due("two", x.clear(), 2);
        CHECK.due("none is left", x.clear(), 0);
        CHECK.due("none can not be", x.judge(), -9);
    }

    /** "PLAYERS (bits) who could throw at a told one now". */
    private static void whoseOfSeveralAndNone() {
        BallsAtDodger x = Check.hall(EIGHT);
        CHECK.due("nobody holds one", x.whose(0), 0);
        Check.tell(x, "b07;");
        CHECK.due("7 holds one", x.whose(0), 128);
        Check.tell(x, "b17;b21;b35;b40;b50;");
        CHECK.due("several, one with two", x.whose(0), 128 + 2 + 32);
        CHECK.due("one with two", x.whose(7), 1);
        Check.tell(x, "o0;");
        CHECK.due("he went out", x.whose(7), 0);
        Check.tell(x, "g01;g11;");
        CHECK.due("one laid his down", x.whose(2), 2 + 32);
        x.pass(10);
        CHECK.due("all were held too long", x.whose(2), 0);
    }

    /** "0 who goes in first"; places 0 .. 7. */
    private static void waitsForAllEight() {
        BallsAtDodger x = Check.hall("p1p00;p1p00;p1p00;p1p00;p1p00;p1p00;p1p00;p1p00;");
        Check.tell(x, "o3;o1;o4;o0;o5;o2;o7;");
        CHECK.due("seven wait", x.waits(1, 6), 7);
        CHECK.due("no eighth", x.waits(1, 7), -9);
        Check.tell(x, "o6;");
        int[] order = {3, 1, 4, 0, 5, 2, 7, 6};
        for (int place = 0; place < 8; place++) {
            CHECK.due("place " + place, x.waits(1, place), order[place]);
            CHECK.due("nobody of the other side", x.waits(0, place), -9);
        }
        CHECK.due("all are out", x.count(2), 0);
    }

    /** A number below m, and the seed behind it, by long arithmetic. */
    private static int draw(long[] seed, int m) {
        seed[0] = (seed[0] * 1664525 + 1013904223) % SEEDS;
        return (int) (seed[0] % (SEEDS / 2) / 256 % m);
    }

    /** LOTS played by calls of promise 6 and 7 on a like object. */
    private static int played(BallsAtDodger x, int n, int z) {
        long[] seed = {(z + SEEDS) % SEEDS};
        for (int i = 0; i < n; i++) {
            int ball = draw(seed, 6);
            int whom = draw(seed, x.count(0));
            int how = draw(seed, 3);
            int who = x.ball(ball, 0);
            if (who >= 0 && x.odds(who, whom, how, 0) > 0) {
                int lot = draw(seed, 40);
                int hit = x.odds(who, whom, how, 0);
                int caught = x.odds(who, whom, how, 1);
                x.throwIt(ball, whom, how, lot < hit ? 0 : lot < hit + caught ? 1 : 2);
            }
        }
        return x.ends();
    }

    private static void lookAtLots(String letters, int n, int z) {
        CHECK.due("lots(" + n + ", " + z + ") of " + letters, Check.hall(letters).lots(n, z), played(Check.hall(letters), n, z));
    }

    /** "z becomes z times 1664525 and 1013904223 (an int); (z without its sign's bit by 256, cut)". */
    private static void lotsAtTheEndsOfInt() {
        int[] seeds = {0, 1, -1, 255, 256, Integer.MAX_VALUE, Integer.MIN_VALUE, Integer.MAX_VALUE - 1, Integer.MIN_VALUE + 1, 0x40000000, -0x40000000};
        for (int z : seeds) {
            for (int n : new int[] {1, 2, 29, 30}) {
                lookAtLots("p0p99;p1l94;p0l55;p1w73;b00;b10;b21;b33;b43;b52;", n, z);
                lookAtLots("p1p99;p0c00;b00;b10;b21;b31;", n, z);
            }
        }
    }

    /** "n times (1 .. 30)". */
    private static void lotsOfOneAndOfThirty() {
        for (int n = 1; n <= 30; n++) {
            for (int z = 0; z < 40; z++) {
                lookAtLots("p0p05;p1c91;p0l55;p1w73;p0t84;p1q66;b00;b10;b21;b33;b43;b54;", n, z * 40503);
            }
        }
    }

    private static void lotsWithOneAndEight() {
        CHECK.due("one", Check.hall("p0p55;b00;").lots(30, 9), 1);
        CHECK.due("nobody holds one", Check.hall(EIGHT).lots(30, 9), 255);
        CHECK.due("all are out", Check.hall("p0p55;p1p55;o1;o0;").lots(30, 9), 0);
        for (int z = 0; z < 200; z++) {
            lookAtLots(EIGHT + "b00;b11;b22;b33;b47;b56;", 30, z * 99991);
            lookAtLots("p1p90;p0p90;p1p90;p0p90;p1p90;p0p90;p1p90;p0p90;b00;b10;b21;b31;b42;b53;", 30, z * 99991);
        }
    }

    /** "in mind": nothing changes. */
    private static void lotsInMind() {
        BallsAtDodger x = Check.hall("p0p99;p1p00;b00;b10;b21;b31;");
        x.image();
        x.pass(4);
        x.row(102);
        Check.letters(x, "p0");
        String before = Check.readings(x);
        int first = x.lots(30, 12345);
        CHECK.holds("nothing changes", before.equals(Check.readings(x)));
        CHECK.due("the same lots again", x.lots(30, 12345), first);
        CHECK.due("the image stays", x.on(), 0);
        CHECK.due("held as then", x.ball(0, 2), 0);
    }

    /** LOTS go on by AIM, DODGE and GRASP behind the THROWS ahead: TENTHS go by, and balls are held no more. */
    private static void lotsByWhatIsInMind() {
        for (int z = 0; z < 1500; z++) {
            int seed = z * 99991;
            for (String balls : new String[] {"b00;b10;b21;b31;", "b00;b11;b21;"}) {
                BallsAtDodger x = beforeTenth10(balls);
                CHECK.due("lots(12, " + seed + ") behind " + balls, x.lots(12, seed), played(beforeTenth10(balls), 12, seed));
            }
        }
    }

    private static BallsAtDodger beforeTenth10(String balls) {
        BallsAtDodger x = Check.hall("p0w70;p1t95;p1l46;");
        x.pass(9);
        Check.tell(x, balls);
        return x;
    }

    /** 0 and 4 of SIDE 0, 1 and 3 of SIDE 1 hold a BALL each, 2 and 6 none; 5 is OUT; the image is of nobody, TENTH 0. */
    private static BallsAtDodger many() {
        BallsAtDodger x = new BallsAtDodger();
        x.image();
        tellMany(x);
        x.row(102);
        return x;
    }

    private static void tellMany(BallsAtDodger x) {
        Check.tell(x, "p0l75;p1w64;p0c37;p1t92;p0q46;p1l58;p0p11;o5;");
        x.pass(12);
        Check.tell(x, "b00;b11;b43;b54;");
    }

    /** What is tried out in mind (a HALL with a FAULT, JUDGED, LOTS, WORTH) is not what is now, whatever is asked then. */
    private static void answersTellWhatIsNow() {
        String[] distortions = {"o0;o1;o2;o3;o4;o6;o0;", "o2;o4;o6;o2;", "o1;o3;o5;", "p0p99;o9;", "g00;g10;g40;g50;b02;b36;b36;o5;",
            "b30;b43;b63;", "", "lots", "on"};
        for (int question = 0; question < QUESTIONS.length; question++) {
            for (int player = 0; player <= 8; player++) {
                long want = QUESTIONS[question].of(many(), player);
                for (String distortion : distortions) {
                    BallsAtDodger x = many();
                    distort(x, distortion);
                    CHECK.due("question " + question + " of " + player + " behind " + distortion, QUESTIONS[question].of(x, player), want);
                }
            }
        }
    }

    private static void bestTellsWhatIsNow() {
        // In mind 0 is left alone: he would be CAUGHT 5, not 1, and worse to throw at than 3.
        BallsAtDodger x = Check.hall("p0l00;p1p50;p0p09;p0p07;b01;");
        CHECK.due("a fault", Check.tell(x, "o2;o3;o2;"), -2006);
        CHECK.due("whom and how", x.best(1, 0), 0);
        CHECK.due("number", x.best(1, 1), 19 - 2);
    }

    private static void distort(BallsAtDodger x, String distortion) {
        if (distortion.equals("lots")) {
            x.row(1002);
            x.row(3400);
            CHECK.due("judged", x.judge(), -9);
            x.ends();
            x.lots(30, 77);
            x.worth(0);
            x.clear();
            x.row(102);
        } else if (distortion.equals("on")) {
            CHECK.due("on", x.on(), 0);
            CHECK.due("lots of nobody", x.lots(1, 7), -3);
            tellMany(x);
        } else {
            CHECK.holds("a fault: " + distortion, Check.tell(x, distortion) <= -1000);
        }
    }

    private static void imageOfANewObject() {
        BallsAtDodger x = new BallsAtDodger();
        String before = Check.readings(x);
        CHECK.due("of a new one", x.image(), 0);
        Check.tell(x, "p0p55;p1p55;p1p00;o2;b00;g51;");
        x.throwIt(0, 1, 0, 0);
        x.pass(50);
        CHECK.due("on", x.on(), 0);
        CHECK.holds("as new", before.equals(Check.readings(x)));
        CHECK.due("nobody", x.player(0, 0), -1);
        CHECK.due("nobody waits", x.waits(1, 0), -9);
        CHECK.due("eight have room", Check.tell(x, EIGHT), 8);
    }

    /** "all that there is (not the ROW, letters, REFUSALS)". */
    private static void imageIsAllThatThereIs() {
        BallsAtDodger x = Check.hall("p0p55;p1l44;p1t93;p0w22;p0p11;o4;b00;b13;b51;");
        x.pass(9);
        Check.tell(x, "b32;");
        x.pass(0);
        x.row(2002);
        Check.letters(x, "p");
        String before = Check.readings(x);
        CHECK.due("image", x.image(), 9);
        CHECK.holds("it changes nothing", before.equals(Check.readings(x)));
        x.hall();
        Check.tell(x, "p1q11;o4;");
        Check.tell(x, "p1q11;");
        x.pass(11);
        x.throwIt(3, 0, 0, 2);
        x.throwIt(3, 0, 0, 0);
        Check.tell(x, "b01;b11;o0;");
        CHECK.due("on", x.on(), 9);
        CHECK.due("letters are as they are", x.count(7), 0);
        Check.letters(x, "p");
        CHECK.holds("all else is as then", before.equals(Check.readings(x)));
        x.pass(1);
        CHECK.due("held as then: too long now", x.ball(5, 1), 0);
        CHECK.due("held as then: not too long", x.ball(3, 0), 2);
        CHECK.due("on again", x.on(), 9);
        CHECK.holds("the image was not changed", before.equals(Check.readings(x)));
        x.row(1);
        x.on();
        CHECK.due("the row is as it is", x.clear(), 2);
        CHECK.due("refusals are as they are", x.count(14), 1);
        x.pass(0);
        x.on();
        CHECK.due("refusals are as they are", x.count(14), 2);
    }

    private static void imageTakenAgain() {
        BallsAtDodger x = Check.hall("p0p55;p1p55;");
        CHECK.due("image", x.image(), 0);
        x.pass(3);
        CHECK.due("another, the first is no more", x.image(), 3);
        x.pass(4);
        CHECK.due("on", x.on(), 3);
        CHECK.due("on again", x.on(), 3);
        x.take(0, 0);
        CHECK.due("on behind a take", x.on(), 3);
        CHECK.due("nobody holds it", x.ball(0, 0), -9);
        CHECK.due("nothing was refused", x.count(13), 0);
    }

    private static void countsFromNoneToAll() {
        BallsAtDodger x = new BallsAtDodger();
        int[] none = {0, 0, 0, 0, 3, 3, 0, 0, -9, -9, -9, 0, 0, 0, 0, 0, 0, -9};
        for (int what = 0; what < none.length; what++) {
            CHECK.due("count " + what, x.count(what), none[what]);
        }
        Check.tell(x, "g31;g30;g40;g50;");
        CHECK.due("all lie on side 0", x.count(4), 6);
        CHECK.due("none lies on side 1", x.count(5), 0);
        Check.tell(x, "p0p00;p0p00;p0p00;b00;b10;b21;b31;b42;b52;");
        CHECK.due("all are held", x.count(4) + x.count(5), 0);
        CHECK.due("three are in", x.count(1), 3);
        x.pass(10);
        CHECK.due("all lie on side 1", x.count(5), 6);
        for (int i = 1; i <= 12; i++) {
            x.row(0);
            CHECK.due("in the row", x.count(6), i);
        }
        for (int i = 1; i <= 80; i++) {
            x.letter('o');
            CHECK.due("letters", x.count(7), i);
        }
        x.letter('o');
        x.row(0);
        CHECK.due("no more", x.count(6) + x.count(7), 92);
        CHECK.due("both were refused", x.count(16), 2);
    }
}
