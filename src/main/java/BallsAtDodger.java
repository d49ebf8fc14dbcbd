/** Balls at who dodges: a hall of two sides, its throws and their odds. ../shared/DOC.md has the rules. */
public final class BallsAtDodger {
    private static final int NOBODY = -1;
    private static final int OTHER = -2;
    private static final int STATE = -3;
    private static final int BELOW = -4;
    private static final int ROOM = -6;
    private static final int NONE = -9;
    private static final int BIG_REFUSAL = 1000000000;
    private static final long LONG_REFUSAL = 4000000000000000000L;

    private static final int UNFIT_LETTER = -1000;
    private static final int UNFIT_STATEMENT = -2000;

    private static final int SIDES = 2;
    private static final int MOST_PLAYERS = 8;
    private static final int BALLS = 6;
    private static final int MOST_HELD = 2;
    private static final int LONGEST_HELD = 9;
    private static final int MOST_LETTERS = 80;
    private static final int GREATEST_LETTER = 255;
    private static final int LAST_TENTH = 9999;
    private static final int MOST_TENTHS = 50;
    private static final int MOST_IN_ROW = 12;
    private static final int GREATEST_IN_ROW = 9999;
    private static final int MOST_LOTS = 30;

    private static final int LOW = 0;
    private static final int HOWS = 3;
    private static final int HIT = 0;
    private static final int CAUGHT = 1;
    private static final int MISSED = 2;
    private static final int ENDINGS = 3;
    private static final int WHOLE = 40;
    private static final int LEAST_ODDS = 1;
    private static final int MOST_ODDS = 19;
    /** What LOW, HIGH and LOBBED add to HIT and to CAUGHT. */
    private static final int[] HIT_BY_HOW = {4, 2, -4};
    private static final int[] CAUGHT_BY_HOW = {-3, 0, 8};
    private static final int TRY_BONUS = 6;

    /** Every bit of an int but its sign's. */
    private static final int WITHOUT_SIGN = 0x7fffffff;

    private static final int MOST_DUELLERS = 4;
    private static final int MOST_DUEL_THROWS = 9;

    /** The letters of the KINDS, each at the KIND's number. */
    private static final String KINDS = "pqctwl";
    private static final int QUICK = 1;
    private static final int CATCHER = 2;
    private static final int TIRED = 3;
    private static final int WARDER = 4;
    private static final int LAST = 5;

    private final Text text = new Text();
    private final Court now = new Court();
    /** Where throws and statements are tried out; what stands there between two calls means nothing. */
    private final Court mind = new Court();
    private final Court kept = new Court();
    private boolean isKept;
    private final Duel fight = new Duel();
    private final int[] told = new int[MOST_IN_ROW];
    private int toldCount;
    /** How many REFUSALS -k there were, at k. */
    private final int[] refusals = new int[1 - ROOM];
    private int seed;

    public BallsAtDodger() {
    }

    public int letter(int c) {
        if (c < 0) {
            return refused(BELOW);
        }
        if (c > GREATEST_LETTER || text.isFull()) {
            return refused(ROOM);
        }
        text.append((char) c);
        return text.length;
    }

    public int hall() {
        int answer;
        int unfit = text.unfitLetter();
        if (unfit != NONE) {
            answer = UNFIT_LETTER - unfit;
        } else {
            mind.becomeLike(now);
            answer = text.tellTo(mind);
            if (answer > 0) {
                now.becomeLike(mind);
            }
        }
        text.forget();
        return answer;
    }

    public int player(int player, int what) {
        if (!now.isPlayer(player)) {
            return refused(NOBODY);
        }
        switch (what) {
            case 0: return now.sideOf(player);
            case 1: return now.kindOf(player);
            case 2: return now.isIn(player) ? 1 : 0;
            case 3: return now.ballsOf(player);
            case 4: return now.aimOf(player);
            case 5: return now.dodgeOf(player);
            case 6: return now.graspOf(player);
            default: return refused(OTHER);
        }
    }

    public int ball(int ball, int what) {
        if (!isBall(ball)) {
            return refused(NOBODY);
        }
        switch (what) {
            case 0: return now.holderOf(ball);
            case 1: return now.floorOf(ball);
            case 2: return now.heldOf(ball);
            default: return refused(OTHER);
        }
    }

    public int odds(int who, int whom, int how, int end) {
        if (!now.isPlayer(who) || !now.isPlayer(whom)) {
            return refused(NOBODY);
        }
        if (!isHow(how) || !isEnd(end)) {
            return refused(OTHER);
        }
        if (!now.areOpposed(who, whom)) {
            return refused(STATE);
        }
        int hit = now.hitOf(who, whom, how);
        int caught = now.caughtOf(whom, how);
        switch (end) {
            case HIT: return hit;
            case CAUGHT: return caught;
            default: return WHOLE - hit - caught;
        }
    }

    public int throwIt(int ball, int whom, int how, int end) {
        if (!isBall(ball) || !now.isPlayer(whom)) {
            return refused(NOBODY);
        }
        if (!isHow(how) || !isEnd(end)) {
            return refused(OTHER);
        }
        if (!now.canThrow(ball, whom)) {
            return refused(STATE);
        }
        if (now.tenth >= LAST_TENTH) {
            return refused(ROOM);
        }
        now.endThrow(ball, whom, end);
        return now.tenth;
    }

    public int take(int player, int ball) {
        if (!now.isPlayer(player) || !isBall(ball)) {
            return refused(NOBODY);
        }
        if (!now.canTake(player, ball)) {
            return refused(STATE);
        }
        if (now.tenth >= LAST_TENTH) {
            return refused(ROOM);
        }
        now.hold(ball, player);
        now.letTenthGoBy();
        return now.tenth;
    }

    public int pass(int n) {
        if (n < 1) {
            return refused(BELOW);
        }
        if (n > MOST_TENTHS || now.tenth + n > LAST_TENTH) {
            return refused(ROOM);
        }
        for (int i = 0; i < n; i++) {
            now.letTenthGoBy();
        }
        return now.tenth;
    }

    public int best(int player, int what) {
        if (!now.isPlayer(player)) {
            return BIG_REFUSAL - refused(NOBODY);
        }
        if (what != 0 && what != 1) {
            return BIG_REFUSAL - refused(OTHER);
        }
        if (now.ballsOf(player) == 0) {
            return BIG_REFUSAL - refused(STATE);
        }
        int best = bestThrow(player);
        if (best == NONE || what == 0) {
            return best;
        }
        return now.gainOf(player, best / 10, best % 10);
    }

    public int two(int one, int other, int whom, int how) {
        if (!now.isPlayer(one) || !now.isPlayer(other) || !now.isPlayer(whom) || isOneTwice(one, other, whom)) {
            return refused(NOBODY);
        }
        if (!isHow(how)) {
            return refused(OTHER);
        }
        if (!now.couldThrowAt(one, whom) || !now.couldThrowAt(other, whom)) {
            return refused(STATE);
        }
        int bothElse = (WHOLE - now.hitOf(one, whom, how)) * (WHOLE - now.hitOf(other, whom, how));
        return WHOLE * WHOLE - bothElse;
    }

    public int worth(int player) {
        if (!now.isPlayer(player)) {
            return BIG_REFUSAL - refused(NOBODY);
        }
        if (!now.isIn(player)) {
            return BIG_REFUSAL - refused(STATE);
        }
        int side = now.sideOf(player);
        mind.becomeLike(now);
        mind.goOut(player);
        return mind.gainAt(side) - now.gainAt(side);
    }

    public long duel(int a, int b, int h, int c, int n, int what) {
        if (a < 1 || b < 1 || h < LEAST_ODDS || c < LEAST_ODDS || n < 1) {
            return LONG_REFUSAL - refused(BELOW);
        }
        if (a > MOST_DUELLERS || b > MOST_DUELLERS || h > MOST_ODDS || c > MOST_ODDS || n > MOST_DUEL_THROWS) {
            return LONG_REFUSAL - refused(ROOM);
        }
        if (what < 0 || what > 3) {
            return LONG_REFUSAL - refused(OTHER);
        }
        fight.begin(a, b, h, c);
        for (int i = 0; i < n; i++) {
            fight.throwNext();
        }
        long above = fight.waysWonBy(what / 2);
        long below = fight.all;
        long divisor = commonDivisor(above, below);
        if (divisor < 1) {
            divisor = 1;
        }
        return (what % 2 == 0 ? above : below) / divisor;
    }

    public long game(int who, int whom, int part) {
        if (!now.isPlayer(who) || !now.isPlayer(whom)) {
            return LONG_REFUSAL - refused(NOBODY);
        }
        if (part != 0 && part != 1) {
            return LONG_REFUSAL - refused(OTHER);
        }
        if (!now.areOpposed(who, whom)) {
            return LONG_REFUSAL - refused(STATE);
        }
        return part == 0 ? catchOrDodge(who, whom) : 1;
    }

    public int row(int v) {
        if (v < 0) {
            return refused(BELOW);
        }
        if (v > GREATEST_IN_ROW || toldCount >= MOST_IN_ROW) {
            return refused(ROOM);
        }
        told[toldCount] = v;
        toldCount++;
        return toldCount;
    }

    public int judge() {
        return playRowInMind();
    }

    public int ends() {
        playRowInMind();
        return mind.inBits();
    }

    public int clear() {
        int had = toldCount;
        toldCount = 0;
        return had;
    }

    public int whose(int player) {
        if (!now.isPlayer(player)) {
            return refused(NOBODY);
        }
        if (!now.isIn(player)) {
            return refused(STATE);
        }
        int bits = 0;
        for (int who = 0; who < now.playerCount; who++) {
            if (now.couldThrowAt(who, player)) {
                bits |= 1 << who;
            }
        }
        return bits;
    }

    public int waits(int side, int place) {
        if (!isSide(side)) {
            return refused(NOBODY);
        }
        if (place < 0) {
            return refused(BELOW);
        }
        if (place >= MOST_PLAYERS) {
            return refused(ROOM);
        }
        return now.sideAt(side).waitsAt(place);
    }

    public int lots(int n, int z) {
        if (n < 1) {
            return refused(BELOW);
        }
        if (n > MOST_LOTS) {
            return refused(ROOM);
        }
        if (now.playerCount == 0) {
            return refused(STATE);
        }
        mind.becomeLike(now);
        seed = z;
        for (int i = 0; i < n; i++) {
            throwByLot();
        }
        return mind.inBits();
    }

    public int image() {
        kept.becomeLike(now);
        isKept = true;
        return now.tenth;
    }

    public int on() {
        if (!isKept) {
            return refused(STATE);
        }
        now.becomeLike(kept);
        return now.tenth;
    }

    public int count(int what) {
        switch (what) {
            case 0: return now.playerCount;
            case 1: return now.sideAt(0).inCount();
            case 2: return now.sideAt(1).inCount();
            case 3: return now.tenth;
            case 4: return now.lyingCount(0);
            case 5: return now.lyingCount(1);
            case 6: return toldCount;
            case 7: return text.length;
            default: return refusalCount(what - 10);
        }
    }

    private int refused(int refusal) {
        int kind = -refusal;
        if (kind > 0 && kind < refusals.length) {
            refusals[kind]++;
        }
        return refusal;
    }

    private int refusalCount(int kind) {
        return kind > 0 && kind < refusals.length ? refusals[kind] : NONE;
    }

    /** 10 times whom, and how, of the best THROW; NONE if nobody can be thrown at. */
    private int bestThrow(int who) {
        int best = NONE;
        int most = 0;
        for (int whom = 0; whom < now.playerCount; whom++) {
            for (int how = 0; how < HOWS && now.areOpposed(who, whom); how++) {
                int gain = now.gainOf(who, whom, how);
                if (best == NONE || gain > most) {
                    best = 10 * whom + how;
                    most = gain;
                }
            }
        }
        return best;
    }

    /**
     * No odds make LOBBED better than LOW: it has no more HIT and no fewer CAUGHT, whatever the other does.
     * So who throws mixes best by LOW alone, and the other by what leaves the least of it: the mean is whole.
     */
    private int catchOrDodge(int who, int whom) {
        int ifDodged = now.hitOf(who, whom, LOW);
        int ifTried = ifDodged + TRY_BONUS - 2 * now.caughtOf(whom, LOW);
        return Math.min(ifDodged, ifTried);
    }

    /** The ROW as far as it can be, in mind: the place of the first THROW that can not be, else NONE. */
    private int playRowInMind() {
        mind.becomeLike(now);
        for (int i = 0; i < toldCount && i < told.length; i++) {
            if (!throwInMind(told[i])) {
                return i;
            }
        }
        return NONE;
    }

    private boolean throwInMind(int v) {
        int ball = mind.leastBallOf(v / 1000);
        int whom = v / 100 % 10;
        int how = v / 10 % 10;
        int end = v % 10;
        if (!isHow(how) || !isEnd(end) || !mind.canThrow(ball, whom)) {
            return false;
        }
        mind.endThrow(ball, whom, end);
        return true;
    }

    private void throwByLot() {
        int ball = draw(BALLS);
        int whom = draw(mind.playerCount);
        int how = draw(HOWS);
        if (mind.canThrow(ball, whom)) {
            int hit = mind.hitOf(mind.holderOf(ball), whom, how);
            int caught = mind.caughtOf(whom, how);
            int lot = draw(WHOLE);
            int end = lot < hit ? HIT : lot < hit + caught ? CAUGHT : MISSED;
            mind.endThrow(ball, whom, end);
        }
    }

    private int draw(int m) {
        seed = seed * 1664525 + 1013904223;
        return m < 1 ? 0 : (seed & WITHOUT_SIGN) / 256 % m;
    }

    private static boolean isSide(int side) {
        return side >= 0 && side < SIDES;
    }

    private static boolean isBall(int ball) {
        return ball >= 0 && ball < BALLS;
    }

    private static boolean isHow(int how) {
        return how >= 0 && how < HOWS;
    }

    private static boolean isEnd(int end) {
        return end >= 0 && end < ENDINGS;
    }

    private static boolean isOneTwice(int one, int other, int whom) {
        return one == other || one == whom || other == whom;
    }

    private static int withinOdds(int odds) {
        return Math.max(LEAST_ODDS, Math.min(MOST_ODDS, odds));
    }

    private static long commonDivisor(long a, long b) {
        // 100 steps are more than Euclid needs for any two longs: the counter only shows the loop's end.
        for (int i = 0; i < 100 && b != 0; i++) {
            long rest = a % b;
            a = b;
            b = rest;
        }
        return a;
    }

    private static Player newPlayer(int kind, int side, int arm, int eye) {
        switch (kind) {
            case QUICK: return new Quick(kind, side, arm, eye);
            case CATCHER: return new Catcher(kind, side, arm, eye);
            case TIRED: return new Tired(kind, side, arm, eye);
            case WARDER: return new Warder(kind, side, arm, eye);
            case LAST: return new Last(kind, side, arm, eye);
            default: return new Player(kind, side, arm, eye);
        }
    }

    /** What of a PLAYER never changes. Who is IN and who holds what stands in the Court, so that Courts share Players. */
    private static class Player {
        private final int kind;
        private final int side;
        private final int arm;
        private final int eye;

        Player(int kind, int side, int arm, int eye) {
            this.kind = kind;
            this.side = side;
            this.arm = arm;
            this.eye = eye;
        }

        int aim(int tenth) {
            return arm;
        }

        int dodge(boolean holdsBall) {
            return eye;
        }

        int grasp(boolean isAlone) {
            return (arm + eye) / 2;
        }
    }

    private static class Quick extends Player {
        Quick(int kind, int side, int arm, int eye) {
            super(kind, side, arm, eye);
        }

        int dodge(boolean holdsBall) {
            return super.dodge(holdsBall) + 3;
        }
    }

    private static class Catcher extends Player {
        Catcher(int kind, int side, int arm, int eye) {
            super(kind, side, arm, eye);
        }

        int grasp(boolean isAlone) {
            return super.grasp(isAlone) + 4;
        }
    }

    private static final class Tired extends Player {
        Tired(int kind, int side, int arm, int eye) {
            super(kind, side, arm, eye);
        }

        int aim(int tenth) {
            return Math.max(0, super.aim(tenth) - tenth / 10);
        }
    }

    private static final class Warder extends Quick {
        Warder(int kind, int side, int arm, int eye) {
            super(kind, side, arm, eye);
        }

        int dodge(boolean holdsBall) {
            return super.dodge(holdsBall) + (holdsBall ? 2 : 0);
        }
    }

    private static final class Last extends Catcher {
        Last(int kind, int side, int arm, int eye) {
            super(kind, side, arm, eye);
        }

        int grasp(boolean isAlone) {
            return super.grasp(isAlone) * (isAlone ? 2 : 1);
        }
    }

    /** Who of a SIDE is IN, and who waits. */
    private static final class Side {
        /** PLAYERS (bits) who are IN. */
        private int in;
        /** Who is OUT, who went first ahead. */
        private final int[] waiting = new int[MOST_PLAYERS];
        private int waitingCount;

        void letIn(int player) {
            in |= 1 << player;
        }

        void letOut(int player) {
            in &= ~(1 << player);
            if (waitingCount < waiting.length) {
                waiting[waitingCount] = player;
                waitingCount++;
            }
        }

        void letFirstIn() {
            if (waitingCount < 1) {
                return;
            }
            letIn(waiting[0]);
            for (int i = 1; i < waitingCount; i++) {
                waiting[i - 1] = waiting[i];
            }
            waitingCount--;
        }

        int waitsAt(int place) {
            return place >= 0 && place < waitingCount ? waiting[place] : NONE;
        }

        int inCount() {
            return Integer.bitCount(in);
        }

        void becomeLike(Side other) {
            in = other.in;
            System.arraycopy(other.waiting, 0, waiting, 0, MOST_PLAYERS);
            waitingCount = other.waitingCount;
        }
    }

    /** All that there is, but for letters, ROW and REFUSALS. */
    private static final class Court {
        /** Never null: who has not come yet has a blank Player in his place. */
        private final Player[] players = new Player[MOST_PLAYERS];
        private int playerCount;
        private final Side side0 = new Side();
        private final Side side1 = new Side();
        /** Who holds each BALL; NONE if it lies. */
        private final int[] holder = new int[BALLS];
        /** The SIDE where each BALL lies; NONE if it is held. */
        private final int[] floor = new int[BALLS];
        private final int[] held = new int[BALLS];
        private int tenth;

        Court() {
            Player blank = new Player(0, 0, 0, 0);
            for (int i = 0; i < MOST_PLAYERS; i++) {
                players[i] = blank;
            }
            for (int ball = 0; ball < BALLS; ball++) {
                layOn(ball, ball < BALLS / SIDES ? 0 : 1);
            }
        }

        void becomeLike(Court other) {
            for (int i = 0; i < MOST_PLAYERS; i++) {
                players[i] = other.players[i];
            }
            playerCount = other.playerCount;
            side0.becomeLike(other.side0);
            side1.becomeLike(other.side1);
            System.arraycopy(other.holder, 0, holder, 0, BALLS);
            System.arraycopy(other.floor, 0, floor, 0, BALLS);
            System.arraycopy(other.held, 0, held, 0, BALLS);
            tenth = other.tenth;
        }

        boolean isPlayer(int player) {
            return player >= 0 && player < playerCount && player < players.length;
        }

        boolean isIn(int player) {
            return isPlayer(player) && (inBits() >> player & 1) == 1;
        }

        int inBits() {
            return side0.in | side1.in;
        }

        Side sideAt(int side) {
            return side == 0 ? side0 : side1;
        }

        int sideOf(int player) {
            return isPlayer(player) ? players[player].side : NONE;
        }

        int kindOf(int player) {
            return isPlayer(player) ? players[player].kind : NONE;
        }

        int aimOf(int player) {
            return isPlayer(player) ? players[player].aim(tenth) : 0;
        }

        int dodgeOf(int player) {
            return isPlayer(player) ? players[player].dodge(ballsOf(player) != 0) : 0;
        }

        int graspOf(int player) {
            return isPlayer(player) ? players[player].grasp(isAlone(player)) : 0;
        }

        boolean isAlone(int player) {
            return side0.in == 1 << player || side1.in == 1 << player;
        }

        int holderOf(int ball) {
            return isBall(ball) ? holder[ball] : NONE;
        }

        int floorOf(int ball) {
            return isBall(ball) ? floor[ball] : NONE;
        }

        int heldOf(int ball) {
            return isBall(ball) ? held[ball] : 0;
        }

        int ballsOf(int player) {
            int bits = 0;
            for (int ball = 0; ball < BALLS && isPlayer(player); ball++) {
                if (holder[ball] == player) {
                    bits |= 1 << ball;
                }
            }
            return bits;
        }

        int leastBallOf(int player) {
            for (int ball = 0; ball < BALLS && isPlayer(player); ball++) {
                if (holder[ball] == player) {
                    return ball;
                }
            }
            return NONE;
        }

        boolean hasHandFree(int player) {
            return isIn(player) && Integer.bitCount(ballsOf(player)) < MOST_HELD;
        }

        int lyingCount(int side) {
            int number = 0;
            for (int ball = 0; ball < BALLS; ball++) {
                if (floor[ball] == side) {
                    number++;
                }
            }
            return number;
        }

        boolean areOpposed(int who, int whom) {
            return isIn(who) && isIn(whom) && sideOf(who) != sideOf(whom);
        }

        boolean couldThrowAt(int who, int whom) {
            return areOpposed(who, whom) && ballsOf(who) != 0;
        }

        boolean canThrow(int ball, int whom) {
            return areOpposed(holderOf(ball), whom);
        }

        boolean canTake(int player, int ball) {
            return hasHandFree(player) && floorOf(ball) == sideOf(player);
        }

        int hitOf(int who, int whom, int how) {
            return withinOdds(10 + aimOf(who) - dodgeOf(whom) + (isHow(how) ? HIT_BY_HOW[how] : 0));
        }

        int caughtOf(int whom, int how) {
            return withinOdds(graspOf(whom) + (isHow(how) ? CAUGHT_BY_HOW[how] : 0));
        }

        int gainOf(int who, int whom, int how) {
            return hitOf(who, whom, how) - 2 * caughtOf(whom, how);
        }

        /** What all THROWS LOW at a SIDE gain together. */
        int gainAt(int side) {
            int gain = 0;
            for (int who = 0; who < playerCount; who++) {
                for (int whom = 0; whom < playerCount; whom++) {
                    if (sideOf(whom) == side && areOpposed(who, whom)) {
                        gain += gainOf(who, whom, LOW);
                    }
                }
            }
            return gain;
        }

        boolean add(Player player) {
            if (!isSide(player.side) || playerCount >= players.length) {
                return false;
            }
            players[playerCount] = player;
            sideAt(player.side).letIn(playerCount);
            playerCount++;
            return true;
        }

        boolean give(int ball, int player) {
            // What he holds already is no BALL more for him.
            if (!isBall(ball) || !isIn(player) || (holder[ball] != player && !hasHandFree(player))) {
                return false;
            }
            hold(ball, player);
            return true;
        }

        boolean lay(int ball, int side) {
            if (!isBall(ball) || !isSide(side)) {
                return false;
            }
            layOn(ball, side);
            return true;
        }

        boolean goOut(int player) {
            if (!isIn(player)) {
                return false;
            }
            int side = sideOf(player);
            for (int ball = 0; ball < BALLS; ball++) {
                if (holder[ball] == player) {
                    layOn(ball, side);
                }
            }
            sideAt(side).letOut(player);
            return true;
        }

        void hold(int ball, int player) {
            if (isBall(ball)) {
                holder[ball] = player;
                floor[ball] = NONE;
                held[ball] = 0;
            }
        }

        void layOn(int ball, int side) {
            if (isBall(ball)) {
                holder[ball] = NONE;
                floor[ball] = side;
                held[ball] = 0;
            }
        }

        void endThrow(int ball, int whom, int end) {
            int who = holderOf(ball);
            layOn(ball, sideOf(whom));
            if (end == HIT) {
                goOut(whom);
            }
            if (end == CAUGHT) {
                goOut(who);
                sideAt(sideOf(whom)).letFirstIn();
                if (hasHandFree(whom)) {
                    hold(ball, whom);
                }
            }
            letTenthGoBy();
        }

        void letTenthGoBy() {
            tenth++;
            for (int ball = 0; ball < BALLS; ball++) {
                if (holder[ball] != NONE) {
                    held[ball]++;
                }
                if (held[ball] > LONGEST_HELD) {
                    layOn(ball, 1 - sideOf(holder[ball]));
                }
            }
        }
    }

    /** The letters that have come, and what they tell. */
    private static final class Text {
        private final char[] letters = new char[MOST_LETTERS];
        private int length;

        boolean isFull() {
            return length >= letters.length;
        }

        void append(char letter) {
            if (!isFull()) {
                letters[length] = letter;
                length++;
            }
        }

        void forget() {
            length = 0;
        }

        /** The place of the first letter with which no HALL can go on (the end, if something lacks); NONE. */
        int unfitLetter() {
            String shape = "";
            int step = 0;
            for (int place = 0; place < length; place++) {
                if (step < shape.length()) {
                    if (!fits(shape.charAt(step), letterAt(place))) {
                        return place;
                    }
                    step++;
                } else {
                    shape = shapeBehind(letterAt(place));
                    step = 0;
                    if (shape.isEmpty()) {
                        return place;
                    }
                }
            }
            return length == 0 || step < shape.length() ? length : NONE;
        }

        /** How many STATEMENTS there are; at one that is not as it must be, its FAULT, and the Court is left half told. */
        int tellTo(Court court) {
            int statements = 0;
            int first = 0;
            for (int place = 0; place < length; place++) {
                if (letterAt(place) == ';') {
                    if (!tellStatement(first, court)) {
                        return UNFIT_STATEMENT - first;
                    }
                    statements++;
                    first = place + 1;
                }
            }
            return statements;
        }

        private boolean tellStatement(int first, Court court) {
            int number = digitAt(first + 1);
            switch (letterAt(first)) {
                case 'p': return court.add(newPlayer(kindAt(first + 2), number, digitAt(first + 3), digitAt(first + 4)));
                case 'b': return court.give(number, digitAt(first + 2));
                case 'g': return court.lay(number, digitAt(first + 2));
                case 'o': return court.goOut(number);
                default: return false;
            }
        }

        private char letterAt(int place) {
            return place >= 0 && place < length ? letters[place] : ' ';
        }

        private int digitAt(int place) {
            return letterAt(place) - '0';
        }

        private int kindAt(int place) {
            return KINDS.indexOf(letterAt(place));
        }

        /** What stands behind a STATEMENT's first letter: d a digit, k a letter of a KIND; nothing if none begins so. */
        private static String shapeBehind(char letter) {
            switch (letter) {
                case 'p': return "dkdd;";
                case 'b': return "dd;";
                case 'g': return "dd;";
                case 'o': return "d;";
                default: return "";
            }
        }

        private static boolean fits(char sign, char letter) {
            switch (sign) {
                case 'd': return letter >= '0' && letter <= '9';
                case 'k': return KINDS.indexOf(letter) >= 0;
                default: return letter == sign;
            }
        }
    }

    /** A DUEL: in how many of all ways (40 a THROW) so many of each SIDE are left. */
    private static final class Duel {
        private static final int WIDTH = MOST_DUELLERS + 1;

        /** At WIDTH times those left of SIDE 0, and those of SIDE 1. */
        private final long[] ways = new long[WIDTH * WIDTH];
        private final long[] before = new long[WIDTH * WIDTH];
        private int hits;
        private int catches;
        private int thrower;
        private long all;

        void begin(int a, int b, int h, int c) {
            clearWays();
            hits = h;
            catches = c;
            thrower = 0;
            all = 1;
            addWays(a, b, 1);
        }

        void throwNext() {
            System.arraycopy(ways, 0, before, 0, ways.length);
            clearWays();
            for (int a = 0; a < WIDTH; a++) {
                for (int b = 0; b < WIDTH; b++) {
                    throwFrom(a, b, before[WIDTH * a + b]);
                }
            }
            thrower = 1 - thrower;
            all *= WHOLE;
        }

        private void throwFrom(int a, int b, long number) {
            if (a == 0 || b == 0) {
                addWays(a, b, number * WHOLE);
                return;
            }
            addWays(a, b, number * (WHOLE - hits - catches));
            addWays(a - 1, b, number * (thrower == 0 ? catches : hits));
            addWays(a, b - 1, number * (thrower == 0 ? hits : catches));
        }

        private void clearWays() {
            for (int i = 0; i < ways.length; i++) {
                ways[i] = 0;
            }
        }

        private void addWays(int a, int b, long number) {
            if (a >= 0 && a < WIDTH && b >= 0 && b < WIDTH) {
                ways[WIDTH * a + b] += number;
            }
        }

        long waysWonBy(int side) {
            long number = 0;
            for (int left = 1; left < WIDTH; left++) {
                number += side == 0 ? ways[WIDTH * left] : ways[left];
            }
            return number;
        }
    }
}
