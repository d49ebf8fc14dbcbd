import java.util.ArrayList;
import java.util.HashSet;
import java.util.List;

/** The document told a second time, plainly and slowly, for RandomRunsTest. Shares no code with the program. */
final class Model {
    static final class Person {
        int side;
        char kind;
        int arm;
        int eye;
        boolean out;
        List<Integer> balls = new ArrayList<>();
    }

    List<Person> people = new ArrayList<>();
    List<List<Integer>> queues = List.of(new ArrayList<>(), new ArrayList<>());
    int[] lies = {0, 0, 0, 1, 1, 1};
    int[] since = new int[6];
    int tenth;
    List<Integer> row = new ArrayList<>();
    String letters = "";
    int[] refusals = new int[7];
    Model image;

    Model copy() {
        Model m = new Model();
        for (Person p : people) {
            Person q = new Person();
            q.side = p.side;
            q.kind = p.kind;
            q.arm = p.arm;
            q.eye = p.eye;
            q.out = p.out;
            q.balls.addAll(p.balls);
            m.people.add(q);
        }
        m.queues = List.of(new ArrayList<>(queues.get(0)), new ArrayList<>(queues.get(1)));
        m.lies = lies.clone();
        m.since = since.clone();
        m.tenth = tenth;
        return m;
    }

    void become(Model other) {
        Model m = other.copy();
        people = m.people;
        queues = m.queues;
        lies = m.lies;
        since = m.since;
        tenth = m.tenth;
    }

    int no(int kind) {
        refusals[-kind]++;
        return kind;
    }

    boolean nobody(int p) {
        return p < 0 || p >= people.size();
    }

    int holder(int ball) {
        for (int p = 0; p < people.size(); p++) {
            if (people.get(p).balls.contains(ball)) {
                return p;
            }
        }
        return -9;
    }

    void drop(int ball, int side) {
        for (Person p : people) {
            p.balls.remove((Integer) ball);
        }
        lies[ball] = side;
    }

    void grab(int ball, int p) {
        drop(ball, -9);
        people.get(p).balls.add(ball);
        since[ball] = tenth;
    }

    void leave(int p) {
        Person who = people.get(p);
        for (int ball : new ArrayList<>(who.balls)) {
            drop(ball, who.side);
        }
        who.out = true;
        queues.get(who.side).add(p);
    }

    void tick() {
        tenth++;
        for (int ball = 0; ball < 6; ball++) {
            int p = holder(ball);
            if (p >= 0 && tenth - since[ball] > 9) {
                drop(ball, people.get(p).side == 0 ? 1 : 0);
            }
        }
    }

    int aim(int p) {
        Person who = people.get(p);
        int aim = who.arm;
        for (int gone = 10; gone <= tenth && who.kind == 't' && aim > 0; gone += 10) {
            aim--;
        }
        return aim;
    }

    int dodge(int p) {
        Person who = people.get(p);
        int dodge = who.eye;
        if (who.kind == 'q' || who.kind == 'w') {
            dodge += 3;
        }
        if (who.kind == 'w' && !who.balls.isEmpty()) {
            dodge += 2;
        }
        return dodge;
    }

    int grasp(int p) {
        Person who = people.get(p);
        int grasp = (who.arm + who.eye) / 2;
        if (who.kind == 'c' || who.kind == 'l') {
            grasp += 4;
        }
        boolean others = false;
        for (Person other : people) {
            others |= other != who && other.side == who.side && !other.out;
        }
        return who.kind == 'l' && !who.out && !others ? 2 * grasp : grasp;
    }

    int clip(int n) {
        return n < 1 ? 1 : n > 19 ? 19 : n;
    }

    int hit(int who, int whom, int how) {
        return clip(10 + aim(who) - dodge(whom) + (how == 0 ? 4 : how == 1 ? 2 : -4));
    }

    int caught(int whom, int how) {
        return clip(grasp(whom) + (how == 0 ? -3 : how == 1 ? 0 : 8));
    }

    boolean against(int who, int whom) {
        return !nobody(who) && !nobody(whom) && !people.get(who).out && !people.get(whom).out
            && people.get(who).side != people.get(whom).side;
    }

    void fly(int ball, int whom, int end) {
        int who = holder(ball);
        Person target = people.get(whom);
        drop(ball, target.side);
        if (end == 0) {
            leave(whom);
        } else if (end == 1) {
            leave(who);
            List<Integer> queue = queues.get(target.side);
            if (!queue.isEmpty()) {
                people.get(queue.remove(0)).out = false;
            }
            if (target.balls.size() < 2) {
                grab(ball, whom);
            }
        }
        tick();
    }

    int letter(int c) {
        if (c < 0) {
            return no(-4);
        }
        if (c > 255 || letters.length() == 80) {
            return no(-6);
        }
        letters += (char) c;
        return letters.length();
    }

    int hall() {
        String text = letters;
        letters = "";
        int good = 0;
        String rest = text;
        String statement = "p[0-9][pqctwl][0-9][0-9];|[bg][0-9][0-9];|o[0-9];";
        while (rest.matches("(?s)(" + statement + ").*")) {
            int end = rest.indexOf(';') + 1;
            good += end;
            rest = rest.substring(end);
        }
        if (!rest.isEmpty() || text.isEmpty()) {
            while (good < text.length() && begins(text, good)) {
                good++;
            }
            return -1000 - good;
        }
        Model m = copy();
        int place = 0;
        int number = 0;
        for (String s : text.split(";")) {
            if (!m.tell(s)) {
                return -2000 - place;
            }
            place += s.length() + 1;
            number++;
        }
        become(m);
        return number;
    }

    /** Whether a statement can begin as the text does between its last ";" and the letter at that place. */
    boolean begins(String text, int place) {
        int from = text.lastIndexOf(';', place - 1) + 1;
        String s = text.substring(from, place + 1);
        for (String whole : List.of("p0p00;", "p0q00;", "p0c00;", "p0t00;", "p0w00;", "p0l00;", "b00;", "g00;", "o0;")) {
            if (s.length() <= whole.length() && s.replaceAll("[0-9]", "0").equals(whole.substring(0, s.length()))) {
                return true;
            }
        }
        return false;
    }

    boolean tell(String s) {
        int one = s.charAt(1) - '0';
        int two = s.length() > 2 ? s.charAt(2) - '0' : 0;
        if (s.charAt(0) == 'p') {
            if (one > 1 || people.size() == 8) {
                return false;
            }
            Person p = new Person();
            p.side = one;
            p.kind = s.charAt(2);
            p.arm = s.charAt(3) - '0';
            p.eye = s.charAt(4) - '0';
            people.add(p);
            return true;
        }
        if (s.charAt(0) == 'o') {
            if (nobody(one) || people.get(one).out) {
                return false;
            }
            leave(one);
            return true;
        }
        if (one > 5) {
            return false;
        }
        if (s.charAt(0) == 'g') {
            if (two > 1) {
                return false;
            }
            drop(one, two);
            return true;
        }
        if (nobody(two) || people.get(two).out) {
            return false;
        }
        List<Integer> balls = new ArrayList<>(people.get(two).balls);
        if (!balls.contains(one) && balls.size() == 2) {
            return false;
        }
        grab(one, two);
        return true;
    }

    int player(int p, int what) {
        if (nobody(p)) {
            return no(-1);
        }
        if (what < 0 || what > 6) {
            return no(-2);
        }
        Person who = people.get(p);
        int bits = 0;
        for (int ball : who.balls) {
            bits += 1 << ball;
        }
        return new int[] {who.side, "pqctwl".indexOf(who.kind), who.out ? 0 : 1, bits, aim(p), dodge(p), grasp(p)}[what];
    }

    int ball(int ball, int what) {
        if (ball < 0 || ball > 5) {
            return no(-1);
        }
        if (what < 0 || what > 2) {
            return no(-2);
        }
        int p = holder(ball);
        return new int[] {p, p < 0 ? lies[ball] : -9, p < 0 ? 0 : tenth - since[ball]}[what];
    }

    int odds(int who, int whom, int how, int end) {
        if (nobody(who) || nobody(whom)) {
            return no(-1);
        }
        if (how < 0 || how > 2 || end < 0 || end > 2) {
            return no(-2);
        }
        if (!against(who, whom)) {
            return no(-3);
        }
        int hit = hit(who, whom, how);
        int caught = caught(whom, how);
        return end == 0 ? hit : end == 1 ? caught : 40 - hit - caught;
    }

    int throwIt(int ball, int whom, int how, int end) {
        if (ball < 0 || ball > 5 || nobody(whom)) {
            return no(-1);
        }
        if (how < 0 || how > 2 || end < 0 || end > 2) {
            return no(-2);
        }
        if (!against(holder(ball), whom)) {
            return no(-3);
        }
        if (tenth == 9999) {
            return no(-6);
        }
        fly(ball, whom, end);
        return tenth;
    }

    int take(int p, int ball) {
        if (nobody(p) || ball < 0 || ball > 5) {
            return no(-1);
        }
        Person who = people.get(p);
        if (who.out || who.balls.size() > 1 || holder(ball) >= 0 || lies[ball] != who.side) {
            return no(-3);
        }
        if (tenth == 9999) {
            return no(-6);
        }
        grab(ball, p);
        tick();
        return tenth;
    }

    int pass(int n) {
        if (n < 1) {
            return no(-4);
        }
        if (n > 50 || tenth + n > 9999) {
            return no(-6);
        }
        for (int i = 0; i < n; i++) {
            tick();
        }
        return tenth;
    }

    int best(int p, int what) {
        if (nobody(p)) {
            return 1000000000 - no(-1);
        }
        if (what < 0 || what > 1) {
            return 1000000000 - no(-2);
        }
        if (people.get(p).balls.isEmpty()) {
            return 1000000000 - no(-3);
        }
        int[] best = {-9, -9};
        for (int key = 79; key >= 0; key--) {
            if (key % 10 < 3 && against(p, key / 10)) {
                int gain = hit(p, key / 10, key % 10) - 2 * caught(key / 10, key % 10);
                if (best[0] == -9 || gain >= best[1]) {
                    best = new int[] {key, gain};
                }
            }
        }
        return best[what];
    }

    int two(int one, int other, int whom, int how) {
        if (nobody(one) || nobody(other) || nobody(whom) || new HashSet<>(List.of(one, other, whom)).size() < 3) {
            return no(-1);
        }
        if (how < 0 || how > 2) {
            return no(-2);
        }
        if (!against(one, whom) || !against(other, whom) || people.get(one).balls.isEmpty() || people.get(other).balls.isEmpty()) {
            return no(-3);
        }
        int a = hit(one, whom, how);
        int b = hit(other, whom, how);
        return 40 * a + 40 * b - a * b;
    }

    int sum(int side) {
        int sum = 0;
        for (int who = 0; who < people.size(); who++) {
            for (int whom = 0; whom < people.size(); whom++) {
                if (against(who, whom) && people.get(whom).side == side) {
                    sum += hit(who, whom, 0) - 2 * caught(whom, 0);
                }
            }
        }
        return sum;
    }

    int worth(int p) {
        if (nobody(p)) {
            return 1000000000 - no(-1);
        }
        if (people.get(p).out) {
            return 1000000000 - no(-3);
        }
        Model without = copy();
        without.people.get(p).out = true;
        return without.sum(people.get(p).side) - sum(people.get(p).side);
    }

    long game(int who, int whom, int part) {
        if (nobody(who) || nobody(whom)) {
            return 4000000000000000000L - no(-1);
        }
        if (part < 0 || part > 1) {
            return 4000000000000000000L - no(-2);
        }
        if (!against(who, whom)) {
            return 4000000000000000000L - no(-3);
        }
        long a = hit(who, whom, 0);
        long b = a + 6 - 2L * caught(whom, 0);
        long c = hit(who, whom, 2);
        long d = c + 6 - 2L * caught(whom, 2);
        long least = Math.max(Math.min(a, b), Math.min(c, d));
        long most = Math.min(Math.max(a, c), Math.max(b, d));
        long above = least == most ? least : a * d - b * c;
        long below = least == most ? 1 : a + d - b - c;
        long divisor = java.math.BigInteger.valueOf(above).gcd(java.math.BigInteger.valueOf(below)).longValue();
        return (below < 0 ? -1 : 1) * (part == 0 ? above : below) / divisor;
    }

    int row(int v) {
        if (v < 0) {
            return no(-4);
        }
        if (v > 9999 || row.size() == 12) {
            return no(-6);
        }
        row.add(v);
        return row.size();
    }

    int[] look() {
        Model m = copy();
        int wrong = -9;
        for (int i = 0; i < row.size() && wrong == -9; i++) {
            String digits = String.format("%04d", row.get(i));
            int who = digits.charAt(0) - '0';
            int whom = digits.charAt(1) - '0';
            int ball = m.nobody(who) ? -1 : m.people.get(who).balls.stream().mapToInt(n -> n).min().orElse(-1);
            if (ball < 0 || !m.against(who, whom) || digits.charAt(2) > '2' || digits.charAt(3) > '2') {
                wrong = i;
            } else {
                m.fly(ball, whom, digits.charAt(3) - '0');
            }
        }
        return new int[] {wrong, m.inside()};
    }

    int inside() {
        int bits = 0;
        for (int p = 0; p < people.size(); p++) {
            bits += people.get(p).out ? 0 : 1 << p;
        }
        return bits;
    }

    int judge() {
        return look()[0];
    }

    int ends() {
        return look()[1];
    }

    int clear() {
        int had = row.size();
        row.clear();
        return had;
    }

    int whose(int p) {
        if (nobody(p)) {
            return no(-1);
        }
        if (people.get(p).out) {
            return no(-3);
        }
        int bits = 0;
        for (int ball = 0; ball < 6; ball++) {
            bits |= against(holder(ball), p) ? 1 << holder(ball) : 0;
        }
        return bits;
    }

    int waits(int side, int place) {
        if (side < 0 || side > 1) {
            return no(-1);
        }
        if (place < 0) {
            return no(-4);
        }
        if (place > 7) {
            return no(-6);
        }
        return place < queues.get(side).size() ? queues.get(side).get(place) : -9;
    }

    int lots(int n, int z) {
        if (n < 1) {
            return no(-4);
        }
        if (n > 30) {
            return no(-6);
        }
        if (people.isEmpty()) {
            return no(-3);
        }
        Model m = copy();
        int[] seed = {z};
        for (int i = 0; i < n; i++) {
            int ball = draw(seed, 6);
            int whom = draw(seed, people.size());
            int how = draw(seed, 3);
            int who = m.holder(ball);
            if (m.against(who, whom)) {
                int lot = draw(seed, 40);
                int hit = m.hit(who, whom, how);
                m.fly(ball, whom, lot < hit ? 0 : lot < hit + m.caught(whom, how) ? 1 : 2);
            }
        }
        return m.inside();
    }

    static int draw(int[] seed, int m) {
        long z = seed[0] * 1664525L + 1013904223L;
        seed[0] = (int) z;
        return (int) ((z & 0x7fffffffL) / 256 % m);
    }

    int image() {
        image = copy();
        return tenth;
    }

    int on() {
        if (image == null) {
            return no(-3);
        }
        become(image);
        return tenth;
    }

    int count(int what) {
        int in0 = 0;
        int in1 = 0;
        for (Person p : people) {
            in0 += !p.out && p.side == 0 ? 1 : 0;
            in1 += !p.out && p.side == 1 ? 1 : 0;
        }
        int lie0 = 0;
        int lie1 = 0;
        for (int ball = 0; ball < 6; ball++) {
            lie0 += holder(ball) < 0 && lies[ball] == 0 ? 1 : 0;
            lie1 += holder(ball) < 0 && lies[ball] == 1 ? 1 : 0;
        }
        if (what >= 11 && what <= 16) {
            return refusals[what - 10];
        }
        return what < 0 || what > 7 ? -9 : new int[] {people.size(), in0, in1, tenth, lie0, lie1, row.size(), letters.length()}[what];
    }
}
