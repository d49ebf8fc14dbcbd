/** The boundary cases that the document's Terms name: PLAYERS, BALLS, HALL, KINDS, ODDS, THROWS and TENTHS. */
public final class EdgesOfTermsTest {
    private static final Check CHECK = new Check("EdgesOfTermsTest");

    public static void main(String[] args) {
        sidesAre0And1();
        eightPlayersAtMost();
        armAndEyeAre0To9();
        ballsAre0To5();
        threeLieOnEachSideAtFirst();
        oneHoldsTwoAtMost();
        hallHas80LettersAtMost();
        hallHasOneStatementAtLeast();
        faultOfKind1AtEachLetter();
        faultOfKind1IfSomethingLacks();
        faultOfKind1AheadOfKind2();
        faultOfKind2IsTheFirstOfSeveral();
        faultOfKind2BehindAllAheadOfIt();
        faultLetsNothingCome();
        statementsHoldLayAndLetOut();
        tiredLoses1ForEach10Tenths();
        quickCatcherAndHalvesAreCut();
        warderHolds0To2Balls();
        lastIsTheOnlyOneIn();
        whoIsOutIsToldAsBefore();
        hitIs1AtLeast19AtMost();
        caughtIs1AtLeast19AtMost();
        missesAreTheRest();
        catcherHoldsFewerThan2();
        catcherHolds2();
        whoWaitsLongestComesIn();
        nobodyWaits();
        theOnlyOneOfHisSideGoesOut();
        nineTenthsAreHeldTenAreNot();
        ballsTooLongAreBehindTheThrow();
        heldBeginsAnew();
        tenthsGoBy();
        CHECK.end();
    }

    private static int fault(String letters) {
        return Check.tell(new BallsAtDodger(), letters);
    }

    /** "SIDES 0, 1". */
    private static void sidesAre0And1() {
        BallsAtDodger x = Check.hall("p0p00;p1p00;g01;g30;");
        CHECK.due("of side 0", x.player(0, 0), 0);
        CHECK.due("of side 1", x.player(1, 0), 1);
        CHECK.due("lies on side 1", x.ball(0, 1), 1);
        CHECK.due("lies on side 0", x.ball(3, 1), 0);
        CHECK.due("in of side 0", x.count(1), 1);
        CHECK.due("in of side 1", x.count(2), 1);
        for (int side = 2; side <= 9; side++) {
            CHECK.due("p of side " + side, fault("p" + side + "p00;"), -2000);
            CHECK.due("g on side " + side, fault("g0" + side + ";"), -2000);
        }
    }

    /** "PLAYERS 0 .. 7 as they come (8 at most)", "no room for more". */
    private static void eightPlayersAtMost() {
        BallsAtDodger x = Check.hall("p0p00;p1q10;p0c20;p1t30;p0w40;p1l50;p0p60;p1q70;");
        CHECK.due("eight", x.count(0), 8);
        for (int player = 0; player < 8; player++) {
            CHECK.due("as they come", x.player(player, 4), player);
        }
        CHECK.due("the ninth", Check.tell(x, "p0p00;"), -2000);
        CHECK.due("the ninth behind another statement", Check.tell(x, "g01;p0p00;"), -2004);
        CHECK.due("that does not come either", x.ball(0, 1), 0);
        CHECK.due("still eight", x.count(0), 8);
        CHECK.due("nobody is 8", Check.tell(x, "o8;"), -2000);
        CHECK.due("nobody is 9", Check.tell(x, "b09;"), -2000);
        CHECK.due("7 holds and goes", Check.tell(x, "b07;o7;"), 2);
        CHECK.due("7 is out", x.player(7, 2), 0);
        CHECK.due("who is out takes room, too", Check.tell(x, "p0p00;"), -2000);
        x = Check.hall("p0p00;p1p00;p0p00;p1p00;p0p00;p1p00;p0p00;");
        CHECK.due("two, but room for one", Check.tell(x, "p0p11;p1p22;"), -2006);
        CHECK.due("neither comes", x.count(0), 7);
        CHECK.due("nobody is 7 yet", Check.tell(x, "o7;"), -2000);
        CHECK.due("one comes", Check.tell(x, "p1p22;"), 1);
        CHECK.due("he is 7", x.player(7, 4), 2);
    }

    /** "ARM, EYE (0 .. 9 each)"; "ARM and EYE by 2, cut". */
    private static void armAndEyeAre0To9() {
        for (int arm = 0; arm <= 9; arm++) {
            for (int eye = 0; eye <= 9; eye++) {
                BallsAtDodger x = Check.hall("p1p" + arm + eye + ";");
                CHECK.due("aim", x.player(0, 4), arm);
                CHECK.due("dodge", x.player(0, 5), eye);
                CHECK.due("grasp", x.player(0, 6), (arm + eye - (arm + eye) % 2) / 2);
            }
        }
        CHECK.due("below 0", fault("p0p/0;"), -1003);
        CHECK.due("above 9", fault("p0p:0;"), -1003);
        CHECK.due("below 0", fault("p0p0/;"), -1004);
        CHECK.due("above 9", fault("p0p0:;"), -1004);
    }

    /** "BALLS 0 .. 5". */
    private static void ballsAre0To5() {
        for (int ball = 0; ball <= 9; ball++) {
            CHECK.due("b" + ball, fault("p0p00;b" + ball + "0;"), ball <= 5 ? 2 : -2006);
            CHECK.due("g" + ball, fault("p0p00;g" + ball + "0;"), ball <= 5 ? 2 : -2006);
            CHECK.due("g" + ball, fault("g" + ball + "1;"), ball <= 5 ? 1 : -2000);
        }
        BallsAtDodger x = Check.hall("p0p00;b50;");
        CHECK.due("the last is held", x.player(0, 3), 32);
        CHECK.due("by him", x.ball(5, 0), 0);
    }

    /** "0, 1, 2 on SIDE 0, the others on SIDE 1 at first". */
    private static void threeLieOnEachSideAtFirst() {
        BallsAtDodger x = new BallsAtDodger();
        int[] sides = {0, 0, 0, 1, 1, 1};
        for (int ball = 0; ball < 6; ball++) {
            CHECK.due("side of " + ball, x.ball(ball, 1), sides[ball]);
            CHECK.due("holder of " + ball, x.ball(ball, 0), -9);
            CHECK.due("held of " + ball, x.ball(ball, 2), 0);
        }
        CHECK.due("tenth", x.count(3), 0);
        CHECK.due("nobody", x.count(0) + x.count(1) + x.count(2), 0);
        CHECK.due("nobody waits", x.waits(0, 0) + x.waits(1, 0), -18);
    }

    /** "one holds 2 at most"; "a third BALL held by one". */
    private static void oneHoldsTwoAtMost() {
        CHECK.due("a third", fault("p0p00;b00;b10;b20;"), -2014);
        CHECK.due("a third of the other side's", fault("p0p00;b50;b00;b40;"), -2014);
        BallsAtDodger x = Check.hall("p0p00;b00;b10;");
        CHECK.due("two", x.player(0, 3), 3);
        CHECK.due("a third", Check.tell(x, "b20;"), -2000);
        CHECK.due("still two", x.player(0, 3), 3);
        CHECK.due("behind one that is laid down", Check.tell(x, "g00;b20;"), 2);
        CHECK.due("two", x.player(0, 3), 6);
        CHECK.due("behind one that another holds", Check.tell(x, "p1p00;b11;b50;"), 3);
        CHECK.due("two", x.player(0, 3), 36);
        CHECK.due("one", x.player(1, 3), 2);
        CHECK.due("a third held by another", Check.tell(x, "b41;b21;"), -2004);
        CHECK.due("two others", x.player(0, 3), 36);
    }

    /** "80 at most". */
    private static void hallHas80LettersAtMost() {
        BallsAtDodger x = new BallsAtDodger();
        Check.letters(x, "g01;g11;".repeat(9) + "g51;g0");
        CHECK.due("letter 79", x.letter('0'), 79);
        CHECK.due("letter 80", x.letter(';'), 80);
        CHECK.due("letter 81", x.letter('g'), -6);
        CHECK.due("of 80", x.hall(), 20);
        CHECK.due("the first", x.ball(1, 1), 1);
        CHECK.due("the last", x.ball(0, 1), 0);
        CHECK.due("of 80 behind 80", Check.tell(x, "g00;".repeat(20)), 20);
        CHECK.due("the fault at the last of 80", Check.tell(x, "g00;".repeat(19) + "g00:"), -1079);
        CHECK.due("behind 80, the 81st lacks", Check.tell(x, "g00;".repeat(18) + "g00;g00g;"), -1079);
        CHECK.due("the last statement of 80", Check.tell(x, "g00;".repeat(19) + "g60;"), -2076);
    }

    /** "At least one STATEMENT." */
    private static void hallHasOneStatementAtLeast() {
        BallsAtDodger x = new BallsAtDodger();
        CHECK.due("none", x.hall(), -1000);
        CHECK.due("none again", x.hall(), -1000);
        CHECK.due("an end of none", Check.tell(x, ";"), -1000);
        CHECK.due("one", Check.tell(x, "g00;"), 1);
        CHECK.due("its letters are no more", x.hall(), -1000);
        CHECK.due("nobody has come", x.count(0), 0);
    }

    /** "kind 1 the place of the first letter with which no HALL can go on": every letter at every place. */
    private static void faultOfKind1AtEachLetter() {
        String[] shapes = {"pdkdd;", "bdd;", "gdd;", "od;"};
        for (String head : new String[] {"", "g00;", "o0;b99;"}) {
            for (int letter = 0; letter <= 255; letter++) {
                lookAtLetter(head, (char) letter, "pbgo".indexOf(letter) >= 0);
            }
            for (String shape : shapes) {
                StringBuilder ahead = new StringBuilder(head).append(shape.charAt(0));
                for (int place = 1; place < shape.length(); place++) {
                    char sign = shape.charAt(place);
                    String right = sign == 'd' ? "0123456789" : sign == 'k' ? "pqctwl" : ";";
                    for (int letter = 0; letter <= 255; letter++) {
                        lookAtLetter(ahead.toString(), (char) letter, right.indexOf(letter) >= 0);
                    }
                    ahead.append(sign == 'd' ? '1' : 'q');
                }
            }
        }
    }

    private static void lookAtLetter(String ahead, char letter, boolean canGoOn) {
        int answer = fault(ahead + letter);
        String name = "letter " + (int) letter + " behind " + ahead;
        if (!canGoOn) {
            CHECK.due(name, answer, -1000 - ahead.length());
        } else if (letter != ';') {
            CHECK.due(name, answer, -1000 - ahead.length() - 1);
        } else {
            CHECK.holds(name, answer > 0 || answer <= -2000);
        }
    }

    /** "(the end, if something lacks)". */
    private static void faultOfKind1IfSomethingLacks() {
        String whole = "p0p00;b00;g00;o0;";
        for (int length = 0; length < whole.length(); length++) {
            String text = whole.substring(0, length);
            int statements = (int) text.chars().filter(c -> c == ';').count();
            boolean lacks = !text.endsWith(";");
            CHECK.due("hall of " + text, fault(text), lacks ? -1000 - length : statements);
        }
        CHECK.due("the first of several", fault("p0x;x"), -1002);
        CHECK.due("the first, and the end lacks", fault("b0;p0"), -1002);
        CHECK.due("letters of one statement more", fault("o0;o"), -1004);
    }

    /** "kind 1 ...; else kind 2". */
    private static void faultOfKind1AheadOfKind2() {
        CHECK.due("behind it", fault("b60;x"), -1004);
        CHECK.due("the end lacks behind it", fault("b60;b"), -1005);
        CHECK.due("the end lacks behind it", fault("o0;p0p0"), -1007);
        CHECK.due("ahead of it", fault("x;b60;"), -1000);
        CHECK.due("in it", fault("p2p0;"), -1004);
        CHECK.due("kind 2 alone", fault("b60;b00;"), -2000);
    }

    /** "kind 2 the place of the first letter of the first STATEMENT that ... is not as it must be". */
    private static void faultOfKind2IsTheFirstOfSeveral() {
        CHECK.due("first and second", fault("b60;p2p00;"), -2000);
        CHECK.due("second and third", fault("p0p00;o1;b00;g60;"), -2006);
        CHECK.due("third and fourth", fault("p0p00;b00;g02;o1;"), -2010);
        CHECK.due("both numbers of one", fault("g00;b69;"), -2004);
        CHECK.due("the last", fault("p0p00;p1p00;b00;b51;o0;o0;"), -2023);
    }

    /** "that, behind all ahead of it in the text, is not as it must be". */
    private static void faultOfKind2BehindAllAheadOfIt() {
        CHECK.due("holds ahead of coming", fault("b00;p0p00;"), -2000);
        CHECK.due("holds behind coming", fault("p0p00;b00;"), 2);
        CHECK.due("goes out ahead of coming", fault("o0;p0p00;"), -2000);
        CHECK.due("holds behind going out", fault("p0p00;o0;b00;"), -2009);
        CHECK.due("goes out twice", fault("p0p00;o0;o0;"), -2009);
        CHECK.due("a third, one of them given away", fault("p0p00;p0p00;b00;b10;b01;b20;"), 6);
        CHECK.due("a third, none of them given away", fault("p0p00;p0p00;b00;b10;b31;b20;"), -2024);
        CHECK.due("a third, all laid down by going out", fault("p0p00;b00;b10;o0;p0p00;b01;b11;"), 7);
        BallsAtDodger x = Check.hall("p0p00;o0;");
        CHECK.due("out since the hall before", Check.tell(x, "b00;"), -2000);
        CHECK.due("out since the hall before", Check.tell(x, "o0;"), -2000);
    }

    /** "Without FAULT all of it comes, with one nothing." */
    private static void faultLetsNothingCome() {
        String[] texts = {"p0p11;p1p22;x", "p0p11;b20;b10;", "g00;g50;o1;o1;", "o0;o1;p0p11;p1p11;b02;b53;b54;", "b01;b41;b31;", "g00;g06;"};
        for (String text : texts) {
            BallsAtDodger x = twoWhoHoldOne();
            String before = Check.readings(x);
            CHECK.holds("a fault: " + text, Check.tell(x, text) <= -1000);
            CHECK.holds("nothing comes: " + text, before.equals(Check.readings(x)));
        }
        BallsAtDodger x = twoWhoHoldOne();
        CHECK.due("without", Check.tell(x, "o0;o1;p0p11;p1p11;b02;b53;"), 6);
        CHECK.due("all comes", x.count(0), 4);
        CHECK.due("all goes", x.count(1) + x.count(2), 2);
        CHECK.due("all hold", x.player(2, 3) + x.player(3, 3), 33);
    }

    private static BallsAtDodger twoWhoHoldOne() {
        BallsAtDodger x = Check.hall("p0p55;p1p44;b00;b51;");
        x.pass(3);
        return x;
    }

    /** "he holds it (HELD 0)", "it lies there", "he goes OUT (what he holds lies on his SIDE)"; no TENTH goes by. */
    private static void statementsHoldLayAndLetOut() {
        BallsAtDodger x = Check.hall("p0p00;p1p00;p1p00;b01;b31;");
        x.pass(4);
        Check.tell(x, "b32;g50;");
        CHECK.due("held anew by another", x.ball(3, 2), 0);
        CHECK.due("by another", x.ball(3, 0), 2);
        CHECK.due("held on", x.ball(0, 2), 4);
        CHECK.due("laid on the other side", x.ball(5, 1), 0);
        Check.tell(x, "g31;o1;");
        CHECK.due("laid down", x.ball(3, 0), -9);
        CHECK.due("laid down there", x.ball(3, 1), 1);
        CHECK.due("laid down, held no more", x.ball(3, 2), 0);
        CHECK.due("what he held lies on his side", x.ball(0, 1), 1);
        CHECK.due("nobody holds it", x.ball(0, 0), -9);
        CHECK.due("held no more", x.ball(0, 2), 0);
        Check.tell(x, "o2;");
        CHECK.due("who went first waits first", x.waits(1, 0), 1);
        CHECK.due("the other behind him", x.waits(1, 1), 2);
        CHECK.due("no more", x.waits(1, 2), -9);
        CHECK.due("nobody of the other side", x.waits(0, 0), -9);
        CHECK.due("no tenth went by", x.count(3), 4);
    }

    /** "1 less for each 10 TENTHS gone by, 0 at least". */
    private static void tiredLoses1ForEach10Tenths() {
        for (int arm = 0; arm <= 9; arm++) {
            BallsAtDodger x = Check.hall("p0t" + arm + "9;");
            for (int tenth = 0; tenth <= 110; tenth = tenth % 10 == 9 ? tenth + 1 : tenth + 9) {
                Check.passTo(x, tenth);
                CHECK.due("aim of " + arm + " at " + tenth, x.player(0, 4), tenth / 10 > arm ? 0 : arm - tenth / 10);
            }
            CHECK.due("dodge as a player", x.player(0, 5), 9);
            CHECK.due("grasp as a player", x.player(0, 6), (arm + 9) / 2);
        }
        BallsAtDodger x = new BallsAtDodger();
        x.pass(20);
        Check.tell(x, "p0t50;p1p00;");
        CHECK.due("who comes late is as tired", x.player(0, 4), 3);
        CHECK.due("hit by the tired aim", x.odds(0, 1, 0, 0), 17);
    }

    private static void quickCatcherAndHalvesAreCut() {
        BallsAtDodger x = Check.hall("p0q00;p0q99;p0c00;p0c98;p0c10;p1l98;p1l10;p1w00;");
        int[][] want = {{0, 3, 0}, {9, 12, 9}, {0, 0, 4}, {9, 8, 12}, {1, 0, 4}, {9, 8, 12}, {1, 0, 4}, {0, 3, 0}};
        for (int player = 0; player < 8; player++) {
            for (int what = 4; what <= 6; what++) {
                CHECK.due("player " + player + ", " + what, x.player(player, what), want[player][what - 4]);
            }
        }
    }

    /** "as a QUICK one, 2 more while he holds a BALL". */
    private static void warderHolds0To2Balls() {
        BallsAtDodger x = Check.hall("p0w04;p0w99;p1p00;");
        CHECK.due("none", x.player(0, 5), 7);
        x.take(0, 0);
        CHECK.due("one", x.player(0, 5), 9);
        x.take(0, 1);
        CHECK.due("two", x.player(0, 5), 9);
        CHECK.due("another holds none", x.player(1, 5), 12);
        x.throwIt(0, 2, 0, 2);
        CHECK.due("one again", x.player(0, 5), 9);
        x.throwIt(1, 2, 0, 2);
        CHECK.due("none again", x.player(0, 5), 7);
        Check.tell(x, "b20;b11;");
        CHECK.due("told", x.player(0, 5), 9);
        CHECK.due("told", x.player(1, 5), 14);
        x.pass(9);
        CHECK.due("held 9", x.player(0, 5), 9);
        x.pass(1);
        CHECK.due("held too long", x.player(0, 5), 7);
        Check.tell(x, "b20;o0;");
        CHECK.due("out", x.player(0, 5), 7);
    }

    /** "twice, if he is the only one of his SIDE who is IN". */
    private static void lastIsTheOnlyOneIn() {
        BallsAtDodger x = Check.hall("p0l54;");
        CHECK.due("nobody else at all", x.player(0, 6), 16);
        Check.tell(x, "p1l54;p1p00;");
        CHECK.due("others of the other side alone", x.player(0, 6), 16);
        CHECK.due("two of his side", x.player(1, 6), 8);
        Check.tell(x, "o2;");
        CHECK.due("the other waits", x.player(1, 6), 16);
        Check.tell(x, "o1;");
        CHECK.due("all are out", x.player(1, 6), 8);
        x = Check.hall("p0l54;p0l54;p0l54;o0;");
        CHECK.due("out", x.player(0, 6), 8);
        CHECK.due("two are in", x.player(1, 6), 8);
        Check.tell(x, "o1;");
        CHECK.due("out, another alone", x.player(0, 6), 8);
        CHECK.due("out, another alone", x.player(1, 6), 8);
        CHECK.due("alone", x.player(2, 6), 16);
        CHECK.due("aim", x.player(2, 4), 5);
        CHECK.due("dodge", x.player(2, 5), 4);
    }

    /** "IN (at first) or OUT": nothing else of him changes, but that he holds nothing. */
    private static void whoIsOutIsToldAsBefore() {
        BallsAtDodger x = Check.hall("p1t75;p1q64;p1w37;p0c28;p0p91;b00;b12;");
        x.pass(10);
        Check.tell(x, "b00;b12;");
        int[][] in = {{1, 3, 1, 1, 6, 5, 6}, {1, 1, 1, 0, 6, 7, 5}, {1, 4, 1, 2, 3, 12, 5}, {0, 2, 1, 0, 2, 8, 9}, {0, 0, 1, 0, 9, 1, 5}};
        int[][] out = {{1, 3, 0, 0, 6, 5, 6}, {1, 1, 0, 0, 6, 7, 5}, {1, 4, 0, 0, 3, 10, 5}, {0, 2, 0, 0, 2, 8, 9}, {0, 0, 0, 0, 9, 1, 5}};
        for (int player = 0; player < 5; player++) {
            for (int what = 0; what <= 6; what++) {
                CHECK.due("in, " + player + ", " + what, x.player(player, what), in[player][what]);
            }
        }
        Check.tell(x, "o0;o1;o2;o3;o4;");
        for (int player = 0; player < 5; player++) {
            for (int what = 0; what <= 6; what++) {
                CHECK.due("out, " + player + ", " + what, x.player(player, what), out[player][what]);
            }
        }
        x.pass(10);
        CHECK.due("out, more tired", x.player(0, 4), 5);
        CHECK.due("all are out", x.count(1) + x.count(2), 0);
        CHECK.due("all are players", x.count(0), 5);
    }

    /** HIT of one who throws with that ARM at that text's PLAYER, who holds a BALL. */
    private static int hit(int arm, String target, int how) {
        return Check.hall("p0p" + arm + "0;" + target + ";b51;").odds(0, 1, how, 0);
    }

    /** "Each 1 at least, 19 at most": of HIT. */
    private static void hitIs1AtLeast19AtMost() {
        int[] low = {14, 15, 16, 17, 18, 19, 19, 19, 19, 19};
        int[] high = {12, 13, 14, 15, 16, 17, 18, 19, 19, 19};
        int[] lobbed = {6, 7, 8, 9, 10, 11, 12, 13, 14, 15};
        int[] lowAtWarder = {5, 4, 3, 2, 1, 1};
        int[] highAtWarder = {3, 2, 1, 1, 1, 1};
        int[] lobbedAtPlayer = {6, 5, 4, 3, 2, 1, 1, 1, 1, 1};
        for (int i = 0; i < 10; i++) {
            CHECK.due("low, arm " + i, hit(i, "p1p00", 0), low[i]);
            CHECK.due("high, arm " + i, hit(i, "p1p00", 1), high[i]);
            CHECK.due("lobbed, arm " + i, hit(i, "p1p00", 2), lobbed[i]);
            CHECK.due("lobbed, eye " + i, hit(0, "p1p0" + i, 2), lobbedAtPlayer[i]);
        }
        for (int i = 0; i < 6; i++) {
            CHECK.due("low, dodge " + (9 + i), hit(0, "p1w0" + (4 + i), 0), lowAtWarder[i]);
            CHECK.due("high, dodge " + (9 + i), hit(0, "p1w0" + (4 + i), 1), highAtWarder[i]);
        }
        CHECK.due("lobbed, dodge 14", hit(0, "p1w09", 2), 1);
    }

    private static int caught(String target, int how) {
        return Check.hall("p0p00;" + target + ";").odds(0, 1, how, 1);
    }

    /** "Each 1 at least, 19 at most": of CAUGHT. */
    private static void caughtIs1AtLeast19AtMost() {
        String[] grasp0To6 = {"p1p00", "p1p11", "p1p22", "p1p33", "p1p44", "p1p55", "p1p66"};
        int[] low = {1, 1, 1, 1, 1, 2, 3};
        int[] high = {1, 1, 2, 3, 4, 5, 6};
        int[] lobbed = {8, 9, 10, 11, 12, 13, 14};
        for (int i = 0; i < 7; i++) {
            CHECK.due("low, grasp " + i, caught(grasp0To6[i], 0), low[i]);
            CHECK.due("high, grasp " + i, caught(grasp0To6[i], 1), high[i]);
            CHECK.due("lobbed, grasp " + i, caught(grasp0To6[i], 2), lobbed[i]);
        }
        String[] catchers = {"p1c55", "p1c66", "p1c77", "p1c88", "p1c99"};
        int[] lobbedAtCatcher = {17, 18, 19, 19, 19};
        for (int i = 0; i < catchers.length; i++) {
            CHECK.due("lobbed, grasp " + (9 + i), caught(catchers[i], 2), lobbedAtCatcher[i]);
        }
        String[] lasts = {"p1l55", "p1l66", "p1l77", "p1l88", "p1l99"};
        int[] lowAtLast = {15, 17, 19, 19, 19};
        int[] highAtLast = {18, 19, 19, 19, 19};
        for (int i = 0; i < lasts.length; i++) {
            CHECK.due("low, grasp " + (18 + 2 * i), caught(lasts[i], 0), lowAtLast[i]);
            CHECK.due("high, grasp " + (18 + 2 * i), caught(lasts[i], 1), highAtLast[i]);
            CHECK.due("lobbed, grasp " + (18 + 2 * i), caught(lasts[i], 2), 19);
        }
    }

    /** "The rest MISSES." */
    private static void missesAreTheRest() {
        BallsAtDodger x = Check.hall("p0p00;p1w09;b51;");
        CHECK.due("most misses: both are 1", x.odds(0, 1, 0, 2), 38);
        x = Check.hall("p0p90;p1l95;");
        CHECK.due("hit 18, caught 19", x.odds(0, 1, 0, 2), 3);
        x = Check.hall("p0p90;p1l93;");
        CHECK.due("hit 18, caught 19, high", x.odds(0, 1, 1, 2), 3);
        x = Check.hall("p0p90;p1l94;");
        CHECK.due("hit 19, caught 17", x.odds(0, 1, 0, 2), 4);
        CHECK.due("hit 11, caught 19, lobbed", x.odds(0, 1, 2, 2), 10);
    }

    /** "the catcher holds the BALL, if he holds fewer than 2". */
    private static void catcherHoldsFewerThan2() {
        BallsAtDodger x = Check.hall("p0p55;p1p44;b00;b10;");
        CHECK.due("he holds none", x.throwIt(0, 1, 0, 1), 1);
        CHECK.due("he holds it", x.player(1, 3), 1);
        CHECK.due("what the other held lies on his side", x.ball(1, 1), 0);
        CHECK.due("and is not held", x.ball(1, 2), 0);
        x = Check.hall("p1p55;p0p44;b30;b01;");
        CHECK.due("he holds one", x.throwIt(3, 1, 0, 1), 1);
        CHECK.due("he holds both", x.player(1, 3), 9);
        CHECK.due("he does not lie", x.ball(3, 1), -9);
        CHECK.due("held since then", x.ball(3, 2), 1);
    }

    /** "else ... it lies on the SIDE at which it was thrown". */
    private static void catcherHolds2() {
        for (int side = 0; side <= 1; side++) {
            BallsAtDodger x = Check.hall("p" + side + "p55;p" + (1 - side) + "p44;b20;b31;b41;");
            CHECK.due("caught", x.throwIt(2, 1, 0, 1), 1);
            CHECK.due("he holds his two", x.player(1, 3), 24);
            CHECK.due("it lies at his side", x.ball(2, 1), 1 - side);
            CHECK.due("nobody holds it", x.ball(2, 0), -9);
            CHECK.due("held no more", x.ball(2, 2), 0);
            CHECK.due("who threw is out all the same", x.player(0, 2), 0);
        }
        for (int end = 0; end <= 2; end += 2) {
            for (int side = 0; side <= 1; side++) {
                BallsAtDodger x = Check.hall("p" + side + "p55;p" + (1 - side) + "p44;b20;");
                x.throwIt(2, 1, 1, end);
                CHECK.due("hit or missed, it lies there", x.ball(2, 1), 1 - side);
                CHECK.due("hit or missed, nobody holds it", x.ball(2, 0), -9);
                CHECK.due("in or out", x.player(1, 2), end == 0 ? 0 : 1);
                CHECK.due("who threw is in", x.player(0, 2), 1);
            }
        }
    }

    /** "of the catcher's SIDE who has waited longest ... is IN again". */
    private static void whoWaitsLongestComesIn() {
        BallsAtDodger x = Check.hall("p0p00;p1p11;p1p22;p1p33;p1p44;p0p55;p0p66;b00;b15;o4;o2;o3;o6;");
        x.throwIt(0, 1, 0, 1);
        CHECK.due("4 went first", x.player(4, 2), 1);
        CHECK.due("2 waits", x.player(2, 2), 0);
        CHECK.due("2 waits first", x.waits(1, 0), 2);
        CHECK.due("3 waits second", x.waits(1, 1), 3);
        CHECK.due("no more", x.waits(1, 2), -9);
        CHECK.due("nobody of who threw comes in", x.player(6, 2), 0);
        CHECK.due("who threw waits behind", x.waits(0, 1), 0);
        CHECK.due("ahead of him", x.waits(0, 0), 6);
        x.throwIt(1, 4, 0, 1);
        CHECK.due("2 comes in", x.player(2, 2), 1);
        x.throwIt(0, 5, 0, 0);
        CHECK.due("hit: nobody comes in", x.player(3, 2), 0);
    }

    /** "(if somebody does)". */
    private static void nobodyWaits() {
        BallsAtDodger x = Check.hall("p0p55;p1p44;p0p33;o2;b00;");
        CHECK.due("caught", x.throwIt(0, 1, 2, 1), 1);
        CHECK.due("one is in", x.count(2), 1);
        CHECK.due("nobody waits", x.waits(1, 0), -9);
        CHECK.due("those of who threw wait", x.waits(0, 0) * 10 + x.waits(0, 1), 20);
        CHECK.due("nobody of them is in", x.count(1), 0);
    }

    private static void theOnlyOneOfHisSideGoesOut() {
        BallsAtDodger x = Check.hall("p0p55;p1p44;b00;b31;b41;");
        CHECK.due("hit", x.throwIt(0, 1, 0, 0), 1);
        CHECK.due("nobody is in", x.count(2), 0);
        CHECK.due("all lie, but none is held", x.count(4) * 10 + x.count(5), 24);
        CHECK.due("he waits", x.waits(1, 0), 1);
        CHECK.due("it goes on", x.take(0, 1), 2);
        CHECK.due("at nobody", x.throwIt(1, 1, 0, 0), -3);
    }

    /** "each BALL held longer than 9 TENTHS lies on the other SIDE". */
    private static void nineTenthsAreHeldTenAreNot() {
        for (int side = 0; side <= 1; side++) {
            BallsAtDodger x = Check.hall("p" + side + "p55;p" + (1 - side) + "p44;b00;b50;");
            x.pass(9);
            CHECK.due("held", x.ball(0, 2), 9);
            CHECK.due("both", x.player(0, 3), 33);
            Check.tell(x, "b21;");
            x.pass(1);
            CHECK.due("none", x.player(0, 3), 0);
            for (int ball = 0; ball <= 5; ball += 5) {
                CHECK.due("the other side", x.ball(ball, 1), 1 - side);
                CHECK.due("nobody", x.ball(ball, 0), -9);
                CHECK.due("held no more", x.ball(ball, 2), 0);
            }
            CHECK.due("another is held on", x.player(1, 3), 4);
            CHECK.due("by his own time", x.ball(2, 2), 1);
        }
        BallsAtDodger x = Check.hall("p0p55;b00;");
        x.pass(50);
        CHECK.due("once the other side, then it lies", x.ball(0, 1), 1);
        x = Check.hall("p0p55;p0p44;b00;");
        x.pass(9);
        x.take(1, 1);
        CHECK.due("by a take, too", x.ball(0, 1), 1);
        CHECK.due("the one taken stays", x.ball(1, 0), 1);
    }

    /** "A TENTH goes by ... Behind each TENTH": what the THROW does comes first. */
    private static void ballsTooLongAreBehindTheThrow() {
        BallsAtDodger x = Check.hall("p0p55;p1p44;b00;b10;b31;b41;");
        x.pass(9);
        x.throwIt(0, 1, 0, 1);
        CHECK.due("he held two then: it lies", x.ball(0, 1), 1);
        CHECK.due("his two are too long", x.ball(3, 1) + x.ball(4, 1), 0);
        CHECK.due("he holds none", x.player(1, 3), 0);
        CHECK.due("who threw was out first: his lies on his side", x.ball(1, 1), 0);
        x = Check.hall("p0p55;p1p44;b00;b31;");
        x.pass(9);
        x.throwIt(0, 1, 0, 1);
        CHECK.due("the caught one stays", x.player(1, 3), 1);
        CHECK.due("held since then", x.ball(0, 2), 1);
        CHECK.due("his other is too long", x.ball(3, 1), 0);
        x = Check.hall("p0p55;p1p44;b00;b10;b31;");
        x.pass(9);
        x.throwIt(0, 1, 0, 0);
        CHECK.due("thrown in time: it lies where it was thrown", x.ball(0, 1), 1);
        CHECK.due("the other of who threw is too long", x.ball(1, 1), 1);
        CHECK.due("he was out first: his lies on his side", x.ball(3, 1), 1);
    }

    /** "HELD: for how many TENTHS a BALL has been held (0 if it lies)". */
    private static void heldBeginsAnew() {
        BallsAtDodger x = Check.hall("p0p55;p1p44;b00;");
        x.pass(8);
        x.throwIt(0, 1, 0, 2);
        CHECK.due("lies", x.ball(0, 2), 0);
        x.pass(3);
        CHECK.due("lies still", x.ball(0, 2), 0);
        x.take(1, 0);
        CHECK.due("anew", x.ball(0, 2), 1);
        x.pass(8);
        CHECK.due("nine", x.ball(0, 0), 1);
        x.pass(1);
        CHECK.due("ten", x.ball(0, 1), 0);
    }

    /** "A TENTH goes by" behind a THROW and a TAKE, n by pass(), none else. */
    private static void tenthsGoBy() {
        BallsAtDodger x = Check.hall("p0p55;p1p44;p0p33;b00;b10;b31;");
        for (int end = 2; end >= 1; end--) {
            CHECK.due("a throw", x.throwIt(2 - end, 1, 0, end), 3 - end);
        }
        CHECK.due("a take", x.take(2, 2), 3);
        CHECK.due("another of all", x.throwIt(2, 1, 0, 0), 4);
        CHECK.due("one", x.pass(1), 5);
        CHECK.due("fifty", x.pass(50), 55);
        x.throwIt(0, 0, 0, 0);
        x.take(0, 0);
        x.pass(0);
        x.pass(51);
        Check.tell(x, "g00;");
        x.row(102);
        x.judge();
        x.ends();
        x.lots(30, 5);
        x.image();
        CHECK.due("none else", x.count(3), 55);
    }
}
