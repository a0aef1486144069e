import java.util.ArrayList;
import java.util.Arrays;
import java.util.HashMap;
import java.util.List;
import java.util.Map;

/**
 * The document's words once more, as slowly and plainly as can be and by other means than the class
 * (distances by a queue, texts as trees, kinds as classes, every question by trying all), to compare with.
 */
final class PlainModel {
    static final long NO = -4611686018427387904L;

    // ---- kinds

    static class Hat {
        int more, square, lie;

        int kind() { return 0; }

        int far(int says, int lies) { return lies == 0 ? says / 3 : says; }

        int lying(int turns, int lain, boolean gone) { return gone ? (lain + turns) % 3 : lain; }

        int inEddy(int way) { return way == 3 ? 0 : way + 1; }
    }

    static class Bowler extends Hat {
        int kind() { return 1; }

        int far(int says, int lies) { return super.far(says, lies) + (lies == 1 ? 1 + more / 4 : 0); }
    }

    static class Cap extends Hat {
        int kind() { return 2; }

        int far(int says, int lies) { return Math.min(1, super.far(says, 2)); }

        int lying(int turns, int lain, boolean gone) { return lain; }
    }

    static final class Ball extends Bowler {
        int kind() { return 3; }

        int far(int says, int lies) { return super.far(says, 1); }

        int inEddy(int way) { return (super.inEddy(way) + more) % 4; }
    }

    static final class Leaf extends Cap {
        int kind() { return 4; }

        int far(int says, int lies) { return says > 1 ? says + more / 2 : super.far(says, lies); }
    }

    static final class Wet extends Hat {
        int kind() { return 5; }

        int far(int says, int lies) { return Math.max(0, super.far(says, lies) - more); }

        int inEddy(int way) { return way; }
    }

    static Hat make(int kind, int more, int square, int lie) {
        Hat[] all = {new Hat(), new Bowler(), new Cap(), new Ball(), new Leaf(), new Wet()};
        Hat hat = all[kind];
        hat.more = more;
        hat.square = square;
        hat.lie = lie;
        return hat;
    }

    static Hat like(Hat h) {
        return make(h.kind(), h.more, h.square, h.lie);
    }

    // ---- texts

    interface Tree {
        int of(Map<String, Integer> names);
    }

    static final class Faulty extends Exception {
        final int place;

        Faulty(int place) {
            this.place = place;
        }
    }

    /** Reads straight from the characters, looking ahead at the next token each time. */
    static final class Parser {
        final String s;
        int i = 0;
        int open = 0;

        Parser(String s) {
            this.s = s;
        }

        void blanks() {
            while (i < s.length() && (s.charAt(i) == 32 || s.charAt(i) == 10)) {
                i++;
            }
        }

        String look() {
            blanks();
            if (i >= s.length()) {
                return "";
            }
            int j = i;
            while (j < s.length() && s.charAt(j) >= 'a' && s.charAt(j) <= 'z') {
                j++;
            }
            if (j == i) {
                while (j < s.length() && s.charAt(j) >= '0' && s.charAt(j) <= '9') {
                    j++;
                }
            }
            return j == i ? s.substring(i, i + 1) : s.substring(i, j);
        }

        boolean take(String wanted) {
            if (look().equals(wanted)) {
                i += wanted.length();
                return true;
            }
            return false;
        }

        void must(String wanted) throws Faulty {
            if (!take(wanted)) {
                fail();
            }
        }

        void fail() throws Faulty {
            blanks();
            throw new Faulty(i);
        }

        void opening() throws Faulty {
            if (open >= 5) {
                fail();
            }
            open++;
        }

        Tree[] text() throws Faulty {
            Tree[] parts = new Tree[3];
            String[] keys = {"goes", "turns", "worth"};
            for (int k = 0; k < 3; k++) {
                must(keys[k]);
                parts[k] = e();
                must(";");
            }
            blanks();
            if (i < s.length()) {
                fail();
            }
            return parts;
        }

        Tree e() throws Faulty {
            Tree t = and();
            while (take("or")) {
                Tree a = t;
                Tree b = and();
                t = n -> (a.of(n) != 0 | b.of(n) != 0) ? 1 : 0;
            }
            return t;
        }

        Tree and() throws Faulty {
            Tree t = not();
            while (take("and")) {
                Tree a = t;
                Tree b = not();
                t = n -> (a.of(n) != 0 & b.of(n) != 0) ? 1 : 0;
            }
            return t;
        }

        Tree not() throws Faulty {
            if (look().equals("not")) {
                opening();
                take("not");
                Tree a = not();
                open--;
                return n -> a.of(n) == 0 ? 1 : 0;
            }
            Tree a = sum();
            if (take("<")) {
                Tree b = sum();
                return n -> a.of(n) < b.of(n) ? 1 : 0;
            }
            if (take("=")) {
                Tree b = sum();
                return n -> a.of(n) == b.of(n) ? 1 : 0;
            }
            return a;
        }

        Tree sum() throws Faulty {
            Tree t = term();
            while (true) {
                Tree a = t;
                if (take("+")) {
                    Tree b = term();
                    t = n -> a.of(n) + b.of(n);
                } else if (take("-")) {
                    Tree b = term();
                    t = n -> a.of(n) - b.of(n);
                } else {
                    return t;
                }
            }
        }

        Tree term() throws Faulty {
            Tree t = one();
            while (take("*")) {
                Tree a = t;
                Tree b = one();
                t = n -> a.of(n) * b.of(n);
            }
            return t;
        }

        Tree one() throws Faulty {
            String token = look();
            if (token.matches("[0-9]{1,4}")) {
                i += token.length();
                int v = Integer.parseInt(token);
                return n -> v;
            }
            if (Arrays.asList("strength", "lie", "more", "second", "cell", "kind").contains(token)) {
                i += token.length();
                return n -> n.get(token);
            }
            if (token.equals("-")) {
                opening();
                take("-");
                Tree a = one();
                open--;
                return n -> -a.of(n);
            }
            if (token.equals("(")) {
                opening();
                take("(");
                Tree a = e();
                must(")");
                open--;
                return a;
            }
            fail();
            return null;
        }
    }

    // ---- what there is

    static final class World {
        boolean[][] marks = new boolean[3][32];
        int[] way = new int[24];
        int[] strength = new int[24];
        List<Hat> hats = new ArrayList<>();
        List<int[]> catchers = new ArrayList<>();
        int law = 0;

        World() {
            Arrays.fill(way, 4);
        }

        World copied() {
            World w = new World();
            for (int k = 0; k < 3; k++) {
                w.marks[k] = marks[k].clone();
            }
            w.way = way.clone();
            w.strength = strength.clone();
            for (Hat h : hats) {
                w.hats.add(like(h));
            }
            for (int[] c : catchers) {
                w.catchers.add(c.clone());
            }
            w.law = law;
            return w;
        }

        boolean open(int c) {
            return c >= 0 && c < 32 && !marks[0][c];
        }
    }

    World w = new World();
    World kept = null;
    List<Tree[]> texts = new ArrayList<>();
    StringBuilder tape = new StringBuilder();
    int[] sorts = {-1, -1, -1, -1};
    int[][] sheets = new int[4][];

    PlainModel() {
        try {
            texts.add(new Parser("goes strength ; turns 1 ; worth 30 - second ; ").text());
        } catch (Faulty f) {
            throw new IllegalStateException(f);
        }
    }

    // ---- a second, in thought

    int says(World v, int part, int strength, Hat hat, int second) {
        Map<String, Integer> names = new HashMap<>();
        names.put("strength", strength);
        names.put("lie", hat.lie);
        names.put("more", hat.more);
        names.put("second", second);
        names.put("cell", hat.square);
        names.put("kind", hat.kind());
        int value = texts.get(v.law)[part].of(names);
        if (part == 0) {
            return Math.min(9, Math.max(0, value));
        }
        if (part == 1) {
            return (value % 3 + 3) % 3;
        }
        return Math.min(99, Math.max(-99, value));
    }

    static int beside(World v, int c, int way) {
        int x = c % 8 + (way == 1 ? 1 : way == 3 ? -1 : 0);
        int y = c / 8 + (way == 2 ? 1 : way == 0 ? -1 : 0);
        if (x < 0 || x > 7 || y < 0 || y > 3 || v.marks[0][8 * y + x]) {
            return -1;
        }
        return 8 * y + x;
    }

    Hat second(World v, Hat before, int second, boolean isHeld) {
        Hat hat = like(before);
        if (v.marks[1][hat.square] || v.way[second] == 4 || isHeld) {
            return hat;
        }
        int far = Math.min(12, Math.max(0, hat.far(says(v, 0, v.strength[second], before, second), hat.lie)));
        int way = v.marks[2][hat.square] ? hat.inEddy(v.way[second]) : v.way[second];
        boolean gone = false;
        for (int i = 0; i < far; i++) {
            int next = beside(v, hat.square, way);
            if (next < 0) {
                break;
            }
            hat.square = next;
            gone = true;
            if (v.marks[1][next]) {
                break;
            }
        }
        hat.lie = hat.lying(says(v, 1, v.strength[second], before, second), before.lie, gone);
        return hat;
    }

    Hat behind(World v, Hat hat, int n, int holdFrom, int holdMany) {
        Hat now = like(hat);
        for (int s = 0; s < n; s++) {
            now = second(v, now, s, s >= holdFrom && s < holdFrom + holdMany);
        }
        return now;
    }

    Hat behind(World v, Hat hat, int n) {
        return behind(v, hat, n, 0, 0);
    }

    Hat[] all(World v, Hat hat) {
        Hat[] path = new Hat[25];
        path[0] = like(hat);
        for (int s = 0; s < 24; s++) {
            path[s + 1] = second(v, path[s], s, false);
        }
        return path;
    }

    static int distance(World v, int from, int to) {
        int[] far = new int[32];
        Arrays.fill(far, 1000000);
        far[from] = 0;
        List<Integer> queue = new ArrayList<>();
        queue.add(from);
        for (int i = 0; i < queue.size(); i++) {
            int c = queue.get(i);
            for (int way = 0; way < 4; way++) {
                int d = beside(v, c, way);
                if (d >= 0 && far[d] > far[c] + 1) {
                    far[d] = far[c] + 1;
                    queue.add(d);
                }
            }
        }
        return far[to];
    }

    int had(World v, Hat[] path, int square, int m, int pace, int reach) {
        for (int n = m; n <= 24; n++) {
            if (distance(v, square, path[n].square) <= pace * (n - m) + reach) {
                return n;
            }
        }
        return -1;
    }

    int had(World v, Hat hat, int[] catcher) {
        return had(v, all(v, hat), catcher[0], 0, catcher[1], catcher[2]);
    }

    boolean noHat(int h) {
        return h < 0 || h >= w.hats.size();
    }

    boolean noCatcher(int p) {
        return p < 0 || p >= w.catchers.size();
    }

    static boolean not(int v, int least, int most) {
        return v < least || v > most;
    }

    // ---- the calls

    int street(int what, int c, int is) {
        if (not(what, 0, 2)) return -1;
        if (not(c, 0, 31) || not(is, 0, 1)) return -2;
        if (what == 0 && is == 1) {
            for (Hat h : w.hats) if (h.square == c) return -3;
            for (int[] p : w.catchers) if (p[0] == c) return -3;
        }
        int was = w.marks[what][c] ? 1 : 0;
        w.marks[what][c] = is == 1;
        return was;
    }

    int blow(int second, int way, int how) {
        if (not(second, 0, 23)) return -5;
        if (not(way, 0, 4) || not(how, 0, 9)) return -7;
        int was = wind(second);
        w.way[second] = way;
        w.strength[second] = how;
        return was;
    }

    int wind(int second) {
        return not(second, 0, 23) ? -5 : 10 * w.way[second] + w.strength[second];
    }

    static int bits(boolean[] are) {
        int bits = 0;
        for (int i = 0; i < are.length; i++) if (are[i]) bits |= 1 << i;
        return bits;
    }

    int count(int what) {
        if (not(what, 0, 7)) return -2;
        int[] all = {w.hats.size(), w.catchers.size(), bits(w.marks[0]), bits(w.marks[1]), bits(w.marks[2]),
            texts.size(), w.law, tape.length()};
        return all[what];
    }

    int feed(int n, int a, int b, int c, int d, int e) {
        int[] five = {a, b, c, d, e};
        if (not(n, 1, 5)) return -2;
        for (int v : five) if (not(v, 0, 255)) return -2;
        if (tape.length() + n > 160) return -4;
        for (int i = 0; i < n; i++) tape.append((char) five[i]);
        return tape.length();
    }

    int text() {
        if (texts.size() == 6) return -4;
        String s = tape.toString();
        tape.setLength(0);
        try {
            texts.add(new Parser(s).text());
            return texts.size() - 1;
        } catch (Faulty f) {
            return -100 - f.place;
        }
    }

    int force(int t) {
        if (not(t, 0, texts.size() - 1)) return -2;
        int was = w.law;
        w.law = t;
        return was;
    }

    int asks(int part, int howLie, int moreKind, int second, int c) {
        if (not(part, 0, 2) || not(howLie, 0, 92) || howLie % 10 > 2 || not(moreKind, 0, 95) || moreKind % 10 > 5
            || not(second, 0, 24) || not(c, 0, 31)) return -1000;
        return says(w, part, howLie / 10, make(moreKind % 10, moreKind / 10, c, howLie % 10), second);
    }

    int hat(int kindMore, int c, int lie) {
        if (not(kindMore, 0, 59) || !w.open(c) || not(lie, 0, 2)) return -2;
        if (w.hats.size() == 4) return -4;
        w.hats.add(make(kindMore / 10, kindMore % 10, c, lie));
        return w.hats.size() - 1;
    }

    int set(int h, int what, int v) {
        if (noHat(h)) return -5;
        Hat hat = w.hats.get(h);
        int was;
        if (what == 0) {
            if (!w.open(v)) return -7;
            was = hat.square;
            hat.square = v;
        } else if (what == 1) {
            if (not(v, 0, 2)) return -7;
            was = hat.lie;
            hat.lie = v;
        } else {
            return -7;
        }
        return was;
    }

    int told(int h, int what) {
        if (noHat(h)) return -5;
        if (not(what, 0, 3)) return -7;
        Hat hat = w.hats.get(h);
        return new int[] {hat.square, hat.lie, hat.kind(), hat.more}[what];
    }

    int come(int c, int pace, int reach) {
        if (!w.open(c) || not(pace, 0, 4) || not(reach, 0, 3)) return -2;
        if (w.catchers.size() == 4) return -4;
        w.catchers.add(new int[] {c, pace, reach});
        return w.catchers.size() - 1;
    }

    int does(int p, int what, int v) {
        if (noCatcher(p)) return -5;
        if (not(what, 0, 2)) return -7;
        if (what == 0 ? !w.open(v) : not(v, 0, what == 1 ? 4 : 3)) return -7;
        int was = w.catchers.get(p)[what];
        w.catchers.get(p)[what] = v;
        return was;
    }

    int at(int h, int n, int what) {
        if (noHat(h)) return -5;
        if (not(n, 0, 24) || not(what, 0, 1)) return -7;
        Hat hat = behind(w, w.hats.get(h), n);
        return what == 0 ? hat.square : hat.lie;
    }

    int pass(int n) {
        if (not(n, 0, 24)) return -2;
        int in = 0;
        for (int h = 0; h < w.hats.size(); h++) {
            w.hats.set(h, behind(w, w.hats.get(h), n));
            if (w.marks[1][w.hats.get(h).square]) in++;
        }
        return in;
    }

    int when(int h, int c) {
        if (noHat(h)) return -5;
        if (not(c, 0, 31)) return -7;
        for (int n = 0; n <= 24; n++) if (behind(w, w.hats.get(h), n).square == c) return n;
        return -1;
    }

    int track(int h, int n) {
        if (noHat(h) || not(n, 0, 24)) return 0;
        boolean[] in = new boolean[32];
        for (int i = 0; i <= n; i++) in[behind(w, w.hats.get(h), i).square] = true;
        return bits(in);
    }

    int over(int h) {
        if (noHat(h)) return -5;
        for (int n = 0; n <= 24; n++) if (w.marks[1][behind(w, w.hats.get(h), n).square]) return n;
        return -1;
    }

    int round(int h, int what) {
        if (noHat(h)) return -5;
        if (not(what, 0, 1)) return -7;
        List<Hat> days = new ArrayList<>();
        days.add(like(w.hats.get(h)));
        while (true) {
            Hat last = behind(w, days.get(days.size() - 1), 24);
            for (int d = 0; d < days.size(); d++) {
                if (days.get(d).square == last.square && days.get(d).lie == last.lie) {
                    return what == 0 ? days.size() : days.size() - d;
                }
            }
            days.add(last);
        }
    }

    int from(int h, int n, int c) {
        if (noHat(h) || not(n, 0, 24) || not(c, 0, 31)) return 0;
        boolean[] from = new boolean[32];
        for (int s = 0; s < 32; s++) {
            Hat hat = like(w.hats.get(h));
            hat.square = s;
            from[s] = w.open(s) && behind(w, hat, n).square == c;
        }
        return bits(from);
    }

    int keeps(int h, int n, int what) {
        if (noHat(h)) return -5;
        if (not(n, 0, 24) || not(what, 0, 1)) return -7;
        int best = -1;
        int most = 0;
        for (int c = 0; c < 32; c++) {
            int many = Integer.bitCount(from(h, n, c));
            if (many > most) {
                most = many;
                best = c;
            }
        }
        return what == 0 ? best : most;
    }

    int caught(int h, int p) {
        if (noHat(h) || noCatcher(p)) return -5;
        return had(w, w.hats.get(h), w.catchers.get(p));
    }

    int who(int h, int what) {
        if (noHat(h)) return -5;
        if (not(what, 0, 1)) return -7;
        for (int n = 0; n <= 24; n++) {
            for (int p = 0; p < w.catchers.size(); p++) if (caught(h, p) == n) return what == 0 ? p : n;
        }
        return -1;
    }

    int stand(int h, int p, int what) {
        if (noHat(h) || noCatcher(p)) return -5;
        if (not(what, 0, 1)) return -7;
        Hat[] path = all(w, w.hats.get(h));
        int[] c = w.catchers.get(p);
        int best = -1;
        int first = 25;
        for (int s = 0; s < 32; s++) {
            if (!w.open(s) || s == w.hats.get(h).square) continue;
            int n = had(w, path, s, 0, c[1], c[2]);
            if (n >= 0 && n < first) {
                first = n;
                best = s;
            }
        }
        return what == 0 || best < 0 ? best : first;
    }

    int wait(int h, int p) {
        if (noHat(h) || noCatcher(p)) return -5;
        Hat[] path = all(w, w.hats.get(h));
        int[] c = w.catchers.get(p);
        int now = had(w, path, c[0], 0, c[1], c[2]);
        if (now < 0) return -1;
        int m = 0;
        while (m + 1 <= 24) {
            int n = had(w, path, c[0], m + 1, c[1], c[2]);
            if (n < 0 || n > now) break;
            m++;
        }
        return m;
    }

    int pace(int h, int p, int second) {
        if (noHat(h) || noCatcher(p)) return -5;
        if (not(second, 0, 24)) return -7;
        for (int pace = 0; pace <= 4; pace++) {
            int[] c = w.catchers.get(p).clone();
            c[1] = pace;
            int n = had(w, w.hats.get(h), c);
            if (n >= 0 && n < (second == 0 ? 25 : second)) return pace;
        }
        return -1;
    }

    int order(int p, int what) {
        if (noCatcher(p)) return -5;
        if (not(what, 0, 1)) return -7;
        int many = w.hats.size();
        int best = -1;
        int least = -1;
        int[] c = w.catchers.get(p);
        int limit = (int) Math.pow(10, many);
        for (int number = 0; number < limit; number++) {
            // No order begins with a 0.
            String digits = many == 0 ? "" : Integer.toString(number);
            boolean isOrder = digits.length() == many;
            for (int h = 0; h < many; h++) isOrder &= digits.indexOf('1' + h) >= 0;
            if (!isOrder) continue;
            int square = c[0];
            int m = 0;
            for (int i = 0; i < many && m >= 0; i++) {
                Hat[] path = all(w, w.hats.get(digits.charAt(i) - '1'));
                m = had(w, path, square, m, c[1], c[2]);
                if (m >= 0) square = path[m].square;
            }
            if (m >= 0 && (least < 0 || m < least)) {
                least = m;
                best = number;
            }
        }
        return what == 0 ? best : least;
    }

    int gain(int h, int p) {
        if (noHat(h) || noCatcher(p)) return -1000;
        int n = caught(h, p);
        return n < 0 ? -100 : says(w, 2, w.catchers.get(p)[1], behind(w, w.hats.get(h), n), n);
    }

    int whom(int p, int what) {
        if (noCatcher(p)) return -5;
        if (not(what, 0, 1)) return -7;
        for (int v = 99; v > 0; v--) {
            for (int h = 0; h < w.hats.size(); h++) if (gain(h, p) == v) return what == 0 ? h : v;
        }
        return what == 0 ? -1 : 0;
    }

    int run(int h, int p) {
        if (noHat(h) || noCatcher(p)) return -5;
        int n = caught(h, p);
        if (n < 0) return -3;
        pass(n);
        w.catchers.get(p)[0] = w.hats.remove(h).square;
        return n;
    }

    int held(int h, int n, int hold) {
        if (noHat(h)) return -5;
        if (not(n, 0, 24) || hold < 0 || hold / 100 > 23 || hold % 100 > 24) return -7;
        return behind(w, w.hats.get(h), n, hold / 100, hold % 100).square;
    }

    int save(int h) {
        if (noHat(h)) return -5;
        for (int many = 0; many <= 24; many++) {
            for (int from = 0; from < 24; from++) {
                if (!w.marks[1][behind(w, w.hats.get(h), 24, from, many).square]) return many == 0 ? 0 : 100 * from + many;
            }
        }
        return -1;
    }

    int turned(int h, int second, int c) {
        if (noHat(h)) return -5;
        if (not(second, 0, 23) || not(c, 0, 31)) return -7;
        int bits = 0;
        for (int way = 0; way <= 4; way++) {
            World v = w.copied();
            v.way[second] = way;
            if (behind(v, v.hats.get(h), 24).square == c) bits |= 1 << way;
        }
        return bits;
    }

    int lull(int h, int p, int what) {
        if (noHat(h) || noCatcher(p)) return -5;
        if (not(what, 0, 1)) return -7;
        int now = caught(h, p);
        for (int n = 0; n < (now < 0 ? 25 : now); n++) {
            for (int second = 0; second < 24; second++) {
                World v = w.copied();
                v.way[second] = 4;
                if (had(v, v.hats.get(h), v.catchers.get(p)) == n) return what == 0 ? second : n;
            }
        }
        return what == 0 ? -1 : now;
    }

    int fence(int h, int p, int what) {
        if (noHat(h) || noCatcher(p)) return -5;
        if (not(what, 0, 1)) return -7;
        int now = caught(h, p);
        for (int n = 0; n < (now < 0 ? 25 : now); n++) {
            for (int c = 0; c < 32; c++) {
                World v = w.copied();
                boolean full = v.marks[0][c];
                for (Hat hat : v.hats) full |= hat.square == c;
                for (int[] k : v.catchers) full |= k[0] == c;
                v.marks[0][c] = true;
                if (!full && had(v, v.hats.get(h), v.catchers.get(p)) == n) return what == 0 ? c : n;
            }
        }
        return what == 0 ? -1 : now;
    }

    int differs(World v, int s, Hat hat) {
        Hat[] path = all(v, hat);
        for (int i = 0; i < sheets[s].length; i++) if (sheets[s][i] != path[i].square) return i;
        return -1;
    }

    int refusal(int s) {
        if (not(s, 0, 3)) return -2;
        if (sorts[s] < 0) return -11;
        return sheets[s].length > 25 ? -2 : 0;
    }

    int judge(int s, int h) {
        if (refusal(s) != 0) return refusal(s);
        if (noHat(h)) return -5;
        return differs(w, s, w.hats.get(h));
    }

    int whose(int s) {
        if (refusal(s) != 0) return refusal(s);
        int bits = 0;
        for (int h = 0; h < w.hats.size(); h++) if (judge(s, h) == -1) bits |= 1 << h;
        return bits;
    }

    int lay(int s, int h) {
        if (refusal(s) != 0) return refusal(s);
        if (noHat(h)) return -5;
        int bits = 0;
        for (int lie = 0; lie < 3; lie++) {
            for (int c = 0; c < 32; c++) {
                Hat hat = make(w.hats.get(h).kind(), w.hats.get(h).more, c, lie);
                if (w.open(c) && differs(w, s, hat) == -1) bits |= 1 << lie;
            }
        }
        return bits;
    }

    int kinds(int s, int h, int sort) {
        if (refusal(s) != 0) return refusal(s);
        if (noHat(h)) return -5;
        if (not(sort, 0, 1)) return -7;
        int bits = 0;
        Hat is = w.hats.get(h);
        for (int i = 0; i < (sort == 0 ? 6 : 10); i++) {
            Hat hat = make(sort == 0 ? i : is.kind(), sort == 0 ? is.more : i, is.square, is.lie);
            if (differs(w, s, hat) == -1) bits |= 1 << i;
        }
        return bits;
    }

    int laws(int s, int h) {
        if (refusal(s) != 0) return refusal(s);
        if (noHat(h)) return -5;
        int bits = 0;
        for (int t = 0; t < texts.size(); t++) {
            World v = w.copied();
            v.law = t;
            if (differs(v, s, v.hats.get(h)) == -1) bits |= 1 << t;
        }
        return bits;
    }

    int film(int s, int h, int n) {
        if (not(s, 0, 3)) return -2;
        if (noHat(h)) return -5;
        if (not(n, 0, 25)) return -7;
        sorts[s] = 2;
        sheets[s] = new int[n];
        for (int i = 0; i < n; i++) sheets[s][i] = behind(w, w.hats.get(h), i).square;
        return n;
    }

    World lots(int seed) {
        World v = w.copied();
        long lot = seed + 1;
        for (int second = 0; second < 24; second++) {
            lot = lot * 48271 % 2147483647;
            v.way[second] = (int) (lot % 5);
            v.strength[second] = (int) ((lot / 5) % 10);
        }
        return v;
    }

    int drawn(int seed, int h, int n) {
        if (noHat(h)) return -5;
        if (not(seed, 0, 99999) || not(n, 0, 24)) return -7;
        return behind(lots(seed), w.hats.get(h), n).square;
    }

    long odds(int seed, int seeds, int hp, int part) {
        if (not(seed, 0, 99999) || not(seeds, 1, 30) || hp < 0 || noHat(hp / 10) || noCatcher(hp % 10)
            || not(part, 0, 1)) return NO;
        int above = 0;
        for (int i = 0; i < seeds; i++) {
            World v = lots(seed + i);
            if (had(v, v.hats.get(hp / 10), v.catchers.get(hp % 10)) >= 0) above++;
        }
        int below = seeds;
        for (int d = 30; d > 1; d--) {
            if (above % d == 0 && below % d == 0) {
                above /= d;
                below /= d;
            }
        }
        return part == 0 ? above : below;
    }

    int image() {
        kept = w.copied();
        return w.hats.size();
    }

    int back() {
        if (kept == null) return -3;
        w = kept.copied();
        return w.hats.size();
    }

    int sheet(int s, int sort, int n) {
        if (not(s, 0, 3) || not(sort, -1, 2)) return -2;
        if (sort >= 0 && n > 40) return -2;
        if (sort >= 0 && n < 0) return -14;
        sorts[s] = sort;
        sheets[s] = sort < 0 ? null : new int[n];
        return 1;
    }

    int cell(int s, int i, int v) {
        if (not(s, 0, 3)) return -2;
        if (sorts[s] < 0) return -11;
        if (not(i, 0, sheets[s].length - 1)) return -12;
        sheets[s][i] = sorts[s] == 0 ? (byte) v : sorts[s] == 1 ? (short) v : v;
        return 1;
    }

    int copy(int s, int i, int other, int j, int n) {
        if (not(s, 0, 3) || not(other, 0, 3)) return -2;
        if (sorts[s] < 0 || sorts[other] < 0) return -11;
        if (sorts[s] != sorts[other]) return -13;
        if (n < 0 || i < 0 || j < 0 || (long) i + n > sheets[s].length || (long) j + n > sheets[other].length) return -12;
        int[] part = Arrays.copyOfRange(sheets[s], i, i + n);
        for (int k = 0; k < n; k++) sheets[other][j + k] = part[k];
        return n;
    }

    int gustsBy(int s, int sort, int at, int n) {
        if (not(s, 0, 3) || not(sort, 0, 2) || not(n, 0, 13)) return -2;
        if (sorts[s] < 0) return -11;
        if (sorts[s] != sort) return -13;
        int many = 0;
        for (int k = 0; k < n; k++) {
            long place = (long) at + 3 * k;
            if (place < 0 || place + 2 >= sheets[s].length) return -12;
            int i = (int) place;
            if (blow(sheets[s][i], sheets[s][i + 1], sheets[s][i + 2]) >= 0) many++;
        }
        return many;
    }

    int taken(int i, int kind) {
        if (not(kind, 0, 6)) return -2;
        if (not(i, 0, 35)) return -12;
        if (i < 32) {
            if (!w.marks[1][i] && !w.marks[2][i]) return -11;
            return kind != 6 ? -13 : w.marks[1][i] ? 1 : 0;
        }
        if (noHat(i - 32)) return -11;
        Hat hat = w.hats.get(i - 32);
        boolean[] is = {true, hat instanceof Bowler, hat instanceof Cap, hat instanceof Ball, hat instanceof Leaf,
            hat instanceof Wet, false};
        return is[kind] ? i - 32 : -13;
    }
}
