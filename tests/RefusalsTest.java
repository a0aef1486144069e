import java.lang.reflect.Method;
import java.util.Arrays;
import java.util.HashMap;
import java.util.Map;

/**
 * Of every call each number's last value that is allowed and the first that is not, on each side, by tables; of several
 * refusals the one told first; and that what is refused, and what is only asked, changes nothing.
 */
public final class RefusalsTest {
    private static final int NONE = HatDownTheStreet.NONE, BAD = HatDownTheStreet.BAD;
    private static final String NO_HAT = "-5: no such HAT; -7: ", NO_PAIR = "-5: no such HAT, CATCHER";
    private static final Map<String, Method> CALLS = new HashMap<>();

    /** The least and the most that is allowed of a number, and what is answered below and above. */
    private static final class Edge {
        final int least, most, below, above;

        Edge(int least, int most, int below, int above) {
            this.least = least;
            this.most = most;
            this.below = below;
            this.above = above;
        }
    }

    public static void main(String[] args) throws Exception {
        for (Method m : HatDownTheStreet.class.getDeclaredMethods()) {
            if (m.getModifiers() == 1) {
                CALLS.put(m.getName(), m);
            }
        }
        theStreet();
        hatsAndCatchers();
        whereItGoes();
        catching();
        otherwise();
        toldWays();
        lots();
        sheets();
        gustsOfSheets();
        takenThings();
        whatIsInTheWay();
        whatIsFull();
        whatIsAsked();
        Due.end();
    }

    private static Edge edge(int least, int most, int refusal) {
        return new Edge(least, most, refusal, refusal);
    }

    private static int[] by(int... numbers) {
        return numbers;
    }

    private static long call(HatDownTheStreet x, String name, int... numbers) throws Exception {
        Object[] all = Arrays.stream(numbers).boxed().toArray();
        return ((Number) CALLS.get(name).invoke(x, all)).longValue();
    }

    private static String label(String name, int... numbers) {
        return name + Arrays.toString(numbers).replace('[', '(').replace(']', ')');
    }

    private static void refused(String place, String words, long due, String name, int... numbers) throws Exception {
        Due.of(place, words);
        HatDownTheStreet x = Furnished.street();
        Due.is(label(name, numbers), call(x, name, numbers), due);
        Due.of("Terms and " + place, "They change nothing, but where it is told.");
        Furnished.isAsItWas(label(name, numbers), x);
    }

    private static void allowed(String place, String words, long refusal, String name, int... numbers) throws Exception {
        Due.of(place, words);
        Due.isNot(label(name, numbers), call(Furnished.street(), name, numbers), refusal);
    }

    private static int[] with(int[] numbers, int i, int v) {
        int[] all = numbers.clone();
        all[i] = v;
        return all;
    }

    /** The numbers are all right; each edge is that of one of them; null: it has none of its own. */
    private static void edges(int promise, String words, String name, int[] right, Edge... edges) throws Exception {
        String place = "Promise " + promise;
        for (int i = 0; i < edges.length; i++) {
            if (edges[i] == null) {
                continue;
            }
            Edge e = edges[i];
            allowed(place, words, e.below, name, with(right, i, e.least));
            allowed(place, words, e.above, name, with(right, i, e.most));
            refused(place, words, e.below, name, with(right, i, e.least - 1));
            refused(place, words, e.above, name, with(right, i, e.most + 1));
            refused(place, words, e.below, name, with(right, i, Integer.MIN_VALUE));
            refused(place, words, e.above, name, with(right, i, Integer.MAX_VALUE));
        }
    }

    /** Of two numbers that are both wrong, what is told first is due: the codes are in the order of the sentence. */
    private static void first(int promise, String name, int[] right, int[] codes, Edge... edges) throws Exception {
        for (int i = 0; i < edges.length; i++) {
            for (int j = i + 1; j < edges.length; j++) {
                if (edges[i] != null && edges[j] != null) {
                    both(promise, name, with(with(right, i, edges[i].most + 1), j, edges[j].least - 1),
                        ahead(codes, edges[i].above, edges[j].below));
                    both(promise, name, with(with(right, i, edges[i].least - 1), j, edges[j].most + 1),
                        ahead(codes, edges[i].below, edges[j].above));
                }
            }
        }
    }

    private static void both(int promise, String name, int[] numbers, int due) throws Exception {
        Due.of("Terms and Promise " + promise, "REFUSALS, of several the first one told");
        Due.is(label(name, numbers), call(Furnished.street(), name, numbers), due);
    }

    private static int ahead(int[] codes, int a, int b) {
        for (int code : codes) {
            if (code == a || code == b) {
                return code;
            }
        }
        throw new IllegalArgumentException("no such refusal");
    }

    private static void rows(int promise, String words, String name, int[] right, int[] codes, Edge... edges) throws Exception {
        edges(promise, words, name, right, edges);
        first(promise, name, right, codes, edges);
    }

    private static Edge hat(int refusal) {
        return edge(0, Furnished.HATS - 1, refusal);
    }

    private static Edge catcher(int refusal) {
        return edge(0, Furnished.CATCHERS - 1, refusal);
    }

    private static void theStreet() throws Exception {
        Edge b = edge(0, 255, BAD);
        rows(2, "NONE: what; BAD: SQUARE, is; STATE: a HAT, a CATCHER is there (of a WALL that comes).", "street",
            by(1, 5, 1), by(NONE, BAD), edge(0, 2, NONE), edge(0, 31, BAD), edge(0, 1, BAD));
        rows(3, "-5: no such SECOND; -7: the others.", "blow",
            by(5, 2, 7), by(-5, -7), edge(0, 23, -5), edge(0, 4, -7), edge(0, 9, -7));
        rows(4, "-5: no such SECOND.", "wind", by(5), by(-5), edge(0, 23, -5));
        rows(5, "7 bytes of THE TAPE. BAD.", "count", by(3), by(BAD), edge(0, 7, BAD));
        rows(6, "BAD: n, any of the five", "feed", by(3, 1, 2, 3, 4, 5), by(BAD), edge(1, 5, BAD), b, b, b, b, b);
        rows(8, "A TEXT is THE LAW: which was. BAD.", "force", by(0), by(BAD), edge(0, Furnished.TEXTS - 1, BAD));
        rows(9, "(howLie: 10 times strength, and lie, 0 .. 92; moreKind: 10 times more, and kind, 0 .. 95; second 0 .. 24; cell)",
            "asks", by(2, 31, 52, 7, 9), by(-1000), edge(0, 2, -1000), edge(0, 92, -1000), edge(0, 95, -1000),
            edge(0, 24, -1000), edge(0, 31, -1000));
        for (int last = 0; last <= 9; last++) {
            for (int ten = 0; ten <= 90; ten += 10) {
                long howLie = Furnished.street().asks(2, ten + last, 0, 0, 0);
                long moreKind = Furnished.street().asks(2, 0, ten + last, 0, 0);
                Due.of("Promise 9", "(howLie: 10 times strength, and lie, 0 .. 92; moreKind: 10 times more, and kind, 0 .. 95; second 0 .. 24; cell)");
                Due.holds("howLie " + (ten + last), (howLie == -1000) == (last > 2));
                Due.holds("moreKind " + (ten + last), (moreKind == -1000) == (last > 5));
            }
        }
        refused("Promise 9", "-1000: none such.", -1000, "asks", 2, 93, 52, 7, 9);
        refused("Promise 9", "-1000: none such.", -1000, "asks", 2, 3, 52, 7, 9);
        refused("Promise 9", "-1000: none such.", -1000, "asks", 2, 31, 56, 7, 9);
        refused("Promise 9", "-1000: none such.", -1000, "asks", 2, 31, 99, 7, 9);
    }

    private static void hatsAndCatchers() throws Exception {
        int[] codes = by(-5, -7);
        rows(10, "BAD (a WALL is there, too); FULL.", "hat", by(37, 9, 1), by(BAD), edge(0, 59, BAD), edge(0, 31, BAD), edge(0, 2, BAD));
        String words = "-5: no such HAT; -7: what, v (a SQUARE with a WALL, too).";
        rows(11, words, "set", by(1, 0, 1), codes, hat(-5), edge(0, 1, -7), edge(0, 31, -7));
        rows(11, words, "set", by(1, 1, 1), codes, hat(-5), edge(0, 1, -7), edge(0, 2, -7));
        rows(12, "-5: no such HAT; -7: what.", "told", by(1, 1), codes, hat(-5), edge(0, 3, -7));
        rows(13, "BAD (a WALL is there, too); FULL.", "come", by(8, 1, 1), by(BAD), edge(0, 31, BAD), edge(0, 4, BAD), edge(0, 3, BAD));
        words = "-5: no such CATCHER; -7: what, v (a SQUARE with a WALL, too).";
        rows(14, words, "does", by(1, 0, 1), codes, catcher(-5), edge(0, 2, -7), edge(0, 31, -7));
        rows(14, words, "does", by(1, 1, 1), codes, catcher(-5), edge(0, 2, -7), edge(0, 4, -7));
        rows(14, words, "does", by(1, 2, 1), codes, catcher(-5), edge(0, 2, -7), edge(0, 3, -7));
    }

    private static void whereItGoes() throws Exception {
        int[] codes = by(-5, -7);
        rows(15, "-5: no such HAT; -7: n, what.", "at", by(1, 7, 0), codes, hat(-5), edge(0, 24, -7), edge(0, 1, -7));
        rows(16, "how many HATS are in PUDDLES. BAD.", "pass", by(5), by(BAD), edge(0, 24, BAD));
        rows(17, "-5: no such HAT; -7: no such SQUARE.", "when", by(1, 9), codes, hat(-5), edge(0, 31, -7));
        rows(18, "0: none such.", "track", by(1, 7), by(0), hat(0), edge(0, 24, 0));
        rows(19, "-5: no such HAT.", "over", by(1), codes, hat(-5));
        rows(20, "-5: no such HAT; -7: what.", "round", by(1, 0), codes, hat(-5), edge(0, 1, -7));
        // Behind 0 each square without wall is that from which it would be there.
        rows(21, "0: none such.", "from", by(1, 0, 9), by(0), hat(0), null, edge(0, 31, 0));
        refused("Promise 21", "0: none such.", 0, "from", 1, -1, 9);
        refused("Promise 21", "0: none such.", 0, "from", 1, 25, 9);
        refused("Promise 21", "0: none such.", 0, "from", 1, Integer.MIN_VALUE, 9);
        refused("Promise 21", "0: none such.", 0, "from", 1, Integer.MAX_VALUE, 9);
        rows(22, "-5: no such HAT; -7: n, what.", "keeps", by(1, 7, 0), codes, hat(-5), edge(0, 24, -7), edge(0, 1, -7));
    }

    private static void catching() throws Exception {
        int[] codes = by(-5, -7);
        rows(23, NO_PAIR, "caught", by(1, 1), codes, hat(-5), catcher(-5));
        rows(24, NO_HAT + "what.", "who", by(1, 0), codes, hat(-5), edge(0, 1, -7));
        rows(25, NO_PAIR + "; -7: what.", "stand", by(1, 1, 0), codes, hat(-5), catcher(-5), edge(0, 1, -7));
        rows(26, NO_PAIR, "wait", by(1, 1), codes, hat(-5), catcher(-5));
        rows(27, NO_PAIR + "; -7: second.", "pace", by(1, 1, 7), codes, hat(-5), catcher(-5), edge(0, 24, -7));
        rows(28, "-5: no such CATCHER; -7: what.", "order", by(1, 0), codes, catcher(-5), edge(0, 1, -7));
        rows(29, "-1000: no such HAT, CATCHER.", "gain", by(1, 1), by(-1000), hat(-1000), catcher(-1000));
        rows(30, "-5: no such CATCHER; -7: what.", "whom", by(1, 0), codes, catcher(-5), edge(0, 1, -7));
        rows(31, "-5: no such HAT, CATCHER; STATE: it isn't HAD.", "run", by(1, 1), codes, hat(-5), catcher(-5));
        for (int hats = 1; hats <= 4; hats++) {
            unlikeMany(hats, 5 - hats);
            unlikeMany(hats, hats);
        }
    }

    /** Hats and catchers have each their own numbers: there may be more of one than of the other. */
    private static void unlikeMany(int hats, int catchers) throws Exception {
        HatDownTheStreet x = new HatDownTheStreet();
        for (int h = 0; h < hats; h++) {
            x.hat(20, h, 0);
        }
        for (int p = 0; p < catchers; p++) {
            x.come(p, 1, 0);
        }
        String[] names = {"caught", "stand", "wait", "pace", "gain", "lull", "fence"};
        int[] promises = {23, 25, 26, 27, 29, 35, 36};
        for (int i = 0; i < names.length; i++) {
            int refusal = names[i].equals("gain") ? -1000 : -5;
            boolean hasMore = CALLS.get(names[i]).getParameterCount() == 3;
            Due.of("Promise " + promises[i], refusal == -5 ? promises[i] == 36 ? "-5, -7 likewise." : NO_PAIR : "-1000: no such HAT, CATCHER.");
            for (int h = 0; h <= 4; h++) {
                for (int p = 0; p <= 4; p++) {
                    long answer = hasMore ? call(x, names[i], h, p, 0) : call(x, names[i], h, p);
                    Due.holds(label(names[i], h, p) + " of " + hats + " and " + catchers, (answer == refusal) == (h >= hats || p >= catchers));
                }
            }
        }
        Due.of("Promise 31", "-5: no such HAT, CATCHER; STATE: it isn't HAD.");
        Due.is("run for the hat after the last", x.run(hats, 0), -5);
        Due.is("run by the catcher after the last", x.run(0, catchers), -5);
        Due.is("run for the last", x.run(hats - 1, catchers - 1), Math.abs(hats - catchers));
    }

    private static void otherwise() throws Exception {
        int[] codes = by(-5, -7);
        rows(32, NO_HAT + "n, hold.", "held", by(1, 7, 304), codes, hat(-5), edge(0, 24, -7), edge(0, 2324, -7));
        for (int from = 0; from <= 23; from++) {
            Due.of("Promise 32", "so many (0 .. 24) in all (hold: 100 times from, and how many)");
            HatDownTheStreet x = Furnished.street();
            Due.isNot("from " + from + ", 24", x.held(1, 7, 100 * from + 24), -7);
            Due.isNot("from " + from + ", none", x.held(1, 7, 100 * from), -7);
            refused("Promise 32", NO_HAT + "n, hold.", -7, "held", 1, 7, 100 * from + 25);
            refused("Promise 32", NO_HAT + "n, hold.", -7, "held", 1, 7, 100 * from + 99);
        }
        refused("Promise 32", NO_HAT + "n, hold.", -7, "held", 1, 7, 2400);
        refused("Promise 32", NO_HAT + "n, hold.", -7, "held", 1, 7, -76);
        refused("Promise 32", NO_HAT + "n, hold.", -7, "held", 1, 7, -100);
        refused("Promise 32", NO_HAT + "n, hold.", -5, "held", 3, 7, 2400);
        rows(33, "-5: no such HAT.", "save", by(1), codes, hat(-5));
        rows(34, NO_HAT + "SECOND, SQUARE.", "turned", by(1, 5, 9), codes, hat(-5), edge(0, 23, -7), edge(0, 31, -7));
        rows(35, NO_PAIR + "; -7: what.", "lull", by(1, 1, 0), codes, hat(-5), catcher(-5), edge(0, 1, -7));
        rows(36, "-5, -7 likewise.", "fence", by(1, 1, 0), codes, hat(-5), catcher(-5), edge(0, 1, -7));
    }

    private static void toldWays() throws Exception {
        for (String name : new String[] {"judge", "whose", "lay", "kinds", "laws"}) {
            toldWay(name);
        }
        refused("Promise 40", "-7: sort.", -7, "kinds", Furnished.INTS, 1, -1);
        refused("Promise 40", "-7: sort.", -7, "kinds", Furnished.INTS, 1, 2);
        refused("Promise 40", "-7: sort.", -7, "kinds", Furnished.INTS, 1, Integer.MAX_VALUE);
        allowed("Promise 40", "-7: sort.", -7, "kinds", Furnished.INTS, 1, 0);
        allowed("Promise 40", "-7: sort.", -7, "kinds", Furnished.INTS, 1, 1);
        both(40, "kinds", by(Furnished.INTS, 3, 2), -5);
        both(40, "kinds", by(Furnished.SHORTS, 1, 2), BAD);
        both(40, "kinds", by(Furnished.MISSING, 1, 2), -11);
        rows(42, "BAD: SHEET; -5: no such HAT; -7: n.", "film", by(0, 1, 5), by(BAD, -5, -7),
            edge(0, 3, BAD), hat(-5), edge(0, 25, -7));
    }

    private static int[] told(String name, int s, int h) {
        return name.equals("whose") ? by(s) : name.equals("kinds") ? by(s, h, 0) : by(s, h);
    }

    /** Sheet 1 tells 39, more than 25; sheet 3 is missing. */
    private static void toldWay(String name) throws Exception {
        boolean isJudge = name.equals("judge");
        String place = "Promise " + (37 + Arrays.asList("judge", "whose", "lay", "kinds", "laws").indexOf(name));
        String words = isJudge ? "BAD: SHEET; -11; BAD: it tells more than 25; -5: no such HAT."
            : name.equals("whose") ? "BAD, -11, BAD likewise." : "BAD, -11, BAD, -5 likewise";
        for (int s : by(-1, 4, Integer.MIN_VALUE, Integer.MAX_VALUE)) {
            refused(place, words, BAD, name, told(name, s, 1));
            refused(place, words, BAD, name, told(name, s, 3));
        }
        for (int h : by(1, -1, 3)) {
            refused(place, words, -11, name, told(name, Furnished.MISSING, h));
            refused(place, words, BAD, name, told(name, Furnished.SHORTS, h));
        }
        for (int h : by(-1, 3, Integer.MIN_VALUE, Integer.MAX_VALUE)) {
            if (!name.equals("whose")) {
                refused(place, words, -5, name, told(name, Furnished.INTS, h));
            }
        }
        for (int size : by(0, 25, 26, 40)) {
            HatDownTheStreet x = Furnished.street();
            x.sheet(Furnished.BYTES, 0, size);
            long answer = call(x, name, told(name, Furnished.BYTES, 1));
            Due.of(place, words);
            Due.holds("it tells " + size, (answer == BAD) == (size > 25));
        }
        for (int h = 0; h < Furnished.HATS; h++) {
            allowed(place, words, -5, name, told(name, Furnished.INTS, h));
        }
    }

    private static void lots() throws Exception {
        rows(43, NO_HAT + "SEED, n.", "drawn", by(7, 1, 5), by(-5, -7), edge(0, 99999, -7), hat(-5), edge(0, 24, -7));
        String words = "NO: none such.";
        long no = HatDownTheStreet.NO;
        int[][] wrong = {
            {-1, 5, 11, 0}, {100000, 5, 11, 0}, {7, 0, 11, 0}, {7, -1, 11, 0}, {7, 31, 11, 0}, {7, 5, 11, -1}, {7, 5, 11, 2},
            {7, 5, 30, 0}, {7, 5, 3, 0}, {7, 5, 13, 0}, {7, 5, 19, 0}, {7, 5, -1, 0}, {7, 5, -9, 0}, {7, 5, -10, 0}, {7, 5, -11, 0},
            {7, 5, 110, 0}, {7, 5, 100, 0}};
        for (int[] w : wrong) {
            refused("Promise 44", words, no, "odds", w);
        }
        for (int i = 0; i < 4; i++) {
            refused("Promise 44", words, no, "odds", with(by(7, 5, 11, 0), i, Integer.MIN_VALUE));
            refused("Promise 44", words, no, "odds", with(by(7, 5, 11, 0), i, Integer.MAX_VALUE));
        }
        int[][] right = {
            {0, 5, 11, 0}, {99999, 5, 11, 0}, {7, 1, 11, 0}, {7, 30, 11, 0}, {7, 5, 11, 1}, {7, 5, 0, 0}, {7, 5, 2, 0}, {7, 5, 22, 0}};
        for (int[] r : right) {
            allowed("Promise 44", words, no, "odds", r);
        }
        Due.of("Terms", "STATE as told; FULL.");
        Due.is("NONE", HatDownTheStreet.NONE, -1);
        Due.is("BAD", HatDownTheStreet.BAD, -2);
        Due.is("STATE", HatDownTheStreet.STATE, -3);
        Due.is("FULL", HatDownTheStreet.FULL, -4);
        Due.is("NO", HatDownTheStreet.NO, -4611686018427387904L);
    }

    private static void sheets() throws Exception {
        rows(47, "BAD: SHEET, sort, n above 40; -14.", "sheet", by(1, 1, 5), by(BAD, -14),
            edge(0, 3, BAD), edge(-1, 2, BAD), new Edge(0, 40, -14, BAD));
        String words = "BAD: SHEET; -11; -12.";
        rows(48, words, "cell", by(Furnished.BYTES, 5, 1), by(BAD, -11, -12), null, edge(0, Furnished.SIZES[0] - 1, -12));
        for (int s : by(-1, 4, Integer.MIN_VALUE, Integer.MAX_VALUE)) {
            refused("Promise 48", words, BAD, "cell", s, 5, 1);
            refused("Promise 48", words, BAD, "cell", s, 99, 1);
        }
        for (int i : by(-1, 0, 1, 40, Integer.MIN_VALUE)) {
            refused("Promise 48", words, -11, "cell", Furnished.MISSING, i, 1);
        }
        words = "BAD: SHEETS; -11; -13: unlike sorts; -12 (n below 0, too).";
        for (int s : by(-1, 4, Integer.MIN_VALUE, Integer.MAX_VALUE)) {
            for (int other : by(Furnished.BYTES, Furnished.MISSING)) {
                refused("Promise 49", words, BAD, "copy", s, 0, other, 0, 1);
                refused("Promise 49", words, BAD, "copy", other, 0, s, 0, 1);
                refused("Promise 49", words, BAD, "copy", other, -1, s, 99, -1);
            }
        }
        for (int n : by(1, 0, -1, 41)) {
            refused("Promise 49", words, -11, "copy", Furnished.MISSING, 0, Furnished.BYTES, 0, n);
            refused("Promise 49", words, -11, "copy", Furnished.BYTES, 0, Furnished.MISSING, 0, n);
            refused("Promise 49", words, -11, "copy", Furnished.MISSING, 0, Furnished.MISSING, 0, n);
            refused("Promise 49", words, -13, "copy", Furnished.SHORTS, 0, Furnished.BYTES, 0, n);
            refused("Promise 49", words, -13, "copy", Furnished.BYTES, -1, Furnished.INTS, 99, n);
        }
        rows(49, words, "copy", by(Furnished.BYTES, 3, Furnished.BYTES, 5, 2), by(-12),
            null, edge(0, 22, -12), null, edge(0, 22, -12), edge(0, 19, -12));
        rows(49, words, "copy", by(Furnished.BYTES, 5, Furnished.BYTES, 3, 2), by(-12), null, null, null, null, edge(0, 19, -12));
    }

    private static void gustsOfSheets() throws Exception {
        String words = "BAD: SHEET, sort, n; -11; -13; -12: what stood ahead blows.";
        int[] outside = by(-1, 4, Integer.MIN_VALUE, Integer.MAX_VALUE);
        for (int i = 0; i < 4; i++) {
            refused("Promise 50", words, BAD, "gustsBy", outside[i], 0, 0, 1);
            refused("Promise 50", words, BAD, "gustsBy", Furnished.BYTES, i == 1 ? 3 : outside[i], 0, 1);
            refused("Promise 50", words, BAD, "gustsBy", Furnished.BYTES, 0, 0, i == 1 ? 14 : outside[i]);
            refused("Promise 50", words, BAD, "gustsBy", Furnished.MISSING, 0, -1, i == 1 ? 14 : outside[i]);
            refused("Promise 50", words, BAD, "gustsBy", Furnished.SHORTS, 0, -1, i == 1 ? 14 : outside[i]);
            refused("Promise 50", words, BAD, "gustsBy", Furnished.MISSING, i == 1 ? 3 : outside[i], -1, 1);
        }
        for (int at : by(0, -1, 24, Integer.MIN_VALUE, Integer.MAX_VALUE)) {
            for (int sort = 0; sort <= 2; sort++) {
                refused("Promise 50", words, -11, "gustsBy", Furnished.MISSING, sort, at, 1);
            }
            refused("Promise 50", words, -13, "gustsBy", Furnished.BYTES, 1, at, 1);
            refused("Promise 50", words, -13, "gustsBy", Furnished.BYTES, 2, at, 1);
            refused("Promise 50", words, -13, "gustsBy", Furnished.SHORTS, 0, at, 1);
            refused("Promise 50", words, -13, "gustsBy", Furnished.INTS, 1, at, 1);
        }
        for (int at : by(-1, -2, -3, 22, 23, 24, 25, 40, Integer.MIN_VALUE, Integer.MAX_VALUE, Integer.MAX_VALUE - 1)) {
            refused("Promise 50", words, -12, "gustsBy", Furnished.BYTES, 0, at, 1);
            refused("Promise 50", words, -12, "gustsBy", Furnished.BYTES, 0, at, 13);
        }
        allowed("Promise 50", words, -12, "gustsBy", Furnished.BYTES, 0, 0, 1);
        allowed("Promise 50", words, -12, "gustsBy", Furnished.BYTES, 0, 21, 1);
        allowed("Promise 50", words, -12, "gustsBy", Furnished.BYTES, 0, 0, 8);
        allowed("Promise 50", words, BAD, "gustsBy", Furnished.SHORTS, 1, 0, 13);
        allowed("Promise 50", words, BAD, "gustsBy", Furnished.SHORTS, 1, 0, 0);
    }

    /** In square 13 is a puddle, in 17 an eddy, in 3 a wall; hat 0 is wet, hat 1 a bowler, hat 2 a leaf. */
    private static void takenThings() throws Exception {
        String words = "BAD: kind; -12: i; -11: nothing lies there; -13.";
        for (int kind : by(-1, 7, Integer.MIN_VALUE, Integer.MAX_VALUE)) {
            for (int i : by(13, 0, 31, 32, 35, 36, -1)) {
                refused("Promise 51", words, BAD, "taken", i, kind);
            }
        }
        for (int kind = 0; kind <= 6; kind++) {
            for (int i : by(-1, 36, Integer.MIN_VALUE, Integer.MAX_VALUE)) {
                refused("Promise 51", words, -12, "taken", i, kind);
            }
            for (int i : by(0, 3, 12, 31, 35)) {
                refused("Promise 51", words, -11, "taken", i, kind);
            }
            if (kind < 6) {
                refused("Promise 51", words, -13, "taken", 13, kind);
                refused("Promise 51", words, -13, "taken", 17, kind);
            }
            if (kind != 0 && kind != 5) {
                refused("Promise 51", words, -13, "taken", 32, kind);
            }
            if (kind != 0 && kind != 1) {
                refused("Promise 51", words, -13, "taken", 33, kind);
            }
            if (kind != 0 && kind != 2 && kind != 4) {
                refused("Promise 51", words, -13, "taken", 34, kind);
            }
        }
    }

    /** Walls are in 3 and 20, hats in 9, 12, 16, catchers in 9, 15, 24. */
    private static void whatIsInTheWay() throws Exception {
        for (int wall : by(3, 20)) {
            refused("Promise 10", "BAD (a WALL is there, too); FULL.", BAD, "hat", 37, wall, 1);
            refused("Promise 11", "-5: no such HAT; -7: what, v (a SQUARE with a WALL, too).", -7, "set", 1, 0, wall);
            refused("Promise 13", "BAD (a WALL is there, too); FULL.", BAD, "come", wall, 1, 1);
            refused("Promise 14", "-5: no such CATCHER; -7: what, v (a SQUARE with a WALL, too).", -7, "does", 1, 0, wall);
        }
        String words = "NONE: what; BAD: SQUARE, is; STATE: a HAT, a CATCHER is there (of a WALL that comes).";
        for (int full : by(9, 12, 15, 16, 24)) {
            refused("Promise 2", words, HatDownTheStreet.STATE, "street", 0, full, 1);
            refused("Promise 2", words, BAD, "street", 0, full, 2);
            refused("Promise 2", words, NONE, "street", 3, full, 1);
        }
    }

    private static HatDownTheStreet full() {
        HatDownTheStreet x = Furnished.street();
        x.hat(0, 0, 0);
        x.come(31, 1, 1);
        for (int i = 0; i < 6; i++) {
            x.feed(5, 32, 32, 32, 32, 32);
        }
        return x;
    }

    private static void fullRefused(String place, String words, long due, String name, int... numbers) throws Exception {
        Due.of(place, words);
        HatDownTheStreet x = full();
        Due.is(label(name, numbers), call(x, name, numbers), due);
        Due.of("Terms and " + place, "They change nothing, but where it is told.");
        Furnished.areAlike(label(name, numbers), x, full());
    }

    private static void whatIsFull() throws Exception {
        int no = HatDownTheStreet.FULL;
        fullRefused("Promise 10", "BAD (a WALL is there, too); FULL.", no, "hat", 37, 9, 1);
        fullRefused("Promise 10", "BAD (a WALL is there, too); FULL.", BAD, "hat", 60, 9, 1);
        fullRefused("Promise 10", "BAD (a WALL is there, too); FULL.", BAD, "hat", 37, 3, 1);
        fullRefused("Promise 10", "BAD (a WALL is there, too); FULL.", BAD, "hat", 37, 9, 3);
        fullRefused("Promise 13", "BAD (a WALL is there, too); FULL.", no, "come", 9, 1, 1);
        fullRefused("Promise 13", "BAD (a WALL is there, too); FULL.", BAD, "come", 20, 1, 1);
        fullRefused("Promise 13", "BAD (a WALL is there, too); FULL.", BAD, "come", 9, 5, 1);
        fullRefused("Promise 13", "BAD (a WALL is there, too); FULL.", BAD, "come", 9, 1, 4);
    }

    private static void whatIsAsked() throws Exception {
        asked("wind", by(5), by(24));
        asked("count", by(3));
        asked("asks", by(0, 31, 52, 7, 9), by(1, 92, 95, 24, 31), by(2, 0, 0, 0, 0));
        asked("told", by(1, 1));
        asked("at", by(1, 24, 0), by(2, 7, 1), by(0, 0, 0));
        asked("when", by(1, 31), by(1, 9));
        asked("track", by(1, 24));
        asked("from", by(1, 24, 9));
        asked("keeps", by(1, 24, 0), by(2, 0, 1));
        asked("held", by(1, 24, 304), by(2, 24, 24), by(0, 24, 2324));
        asked("turned", by(1, 0, 9), by(2, 23, 17));
        asked("judge", by(2, 1), by(0, 0));
        asked("whose", by(2), by(0));
        asked("lay", by(2, 1), by(0, 0));
        asked("kinds", by(2, 1, 0), by(2, 1, 1));
        asked("laws", by(2, 1), by(0, 0));
        asked("drawn", by(7, 1, 24), by(99999, 2, 24));
        asked("odds", by(7, 30, 11, 0), by(99999, 30, 20, 1));
        asked("taken", by(13, 6), by(17, 6), by(33, 0));
        for (int what = 0; what <= 1; what++) {
            for (int h = 0; h < Furnished.HATS; h++) {
                asked("round", by(h, what));
                asked("who", by(h, what));
                asked("order", by(h, what));
                asked("whom", by(h, what));
                for (int p = 0; p < Furnished.CATCHERS; p++) {
                    asked("stand", by(h, p, what));
                    asked("lull", by(h, p, what));
                    asked("fence", by(h, p, what));
                }
            }
        }
        for (int h = 0; h < Furnished.HATS; h++) {
            asked("over", by(h));
            asked("save", by(h));
            for (int p = 0; p < Furnished.CATCHERS; p++) {
                asked("caught", by(h, p));
                asked("wait", by(h, p));
                asked("pace", by(h, p, 0));
                asked("gain", by(h, p));
            }
        }
    }

    private static void asked(String name, int[]... all) throws Exception {
        Due.of("Terms", "What is asked changes nothing, but where it is told.");
        for (int[] numbers : all) {
            HatDownTheStreet x = Furnished.street();
            long answer = call(x, name, numbers);
            Due.is(label(name, numbers) + " again", call(x, name, numbers), answer);
            Furnished.isAsItWas(label(name, numbers), x);
        }
    }
}
