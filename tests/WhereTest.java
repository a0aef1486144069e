/** Promises 15 to 22: where it goes. */
public final class WhereTest {
    private static final int UP = 0, RIGHT = 10, DOWN = 20, LEFT = 30, STILL = 40;
    private static final int BAD = HatDownTheStreet.BAD;
    private static final int CAP = 20, BALL = 30;
    private static final int[] NO_SUCH = {-1, 1, 4, Integer.MIN_VALUE, Integer.MAX_VALUE};

    public static void main(String[] args) {
        at();
        atRefused();
        pass();
        passEdges();
        when();
        whenEdges();
        track();
        over();
        round();
        roundOfManyDays();
        roundAgain();
        roundRefused();
        from();
        fromEdges();
        keeps();
        keepsEdges();
        Due.end();
    }

    private static void at() {
        Due.of("Promise 15", "BEHIND n of a HAT what 0 its SQUARE, 1 how it LIES.");
        HatDownTheStreet x = new HatDownTheStreet();
        x.hat(0, 9, 1);
        x.hat(CAP, 31, 2);
        x.hat(0, 24, 0);
        Due.gusts(x, RIGHT + 3, UP + 1, LEFT + 1);
        x.blow(23, 2, 3);
        int[][] squares = {{9, 12, 4, 4, 4, 12}, {31, 31, 23, 22, 22, 30}, {24, 25, 17, 16, 16, 24}};
        int[][] lies = {{1, 2, 0, 0, 0, 1}, {2, 2, 2, 2, 2, 2}, {0, 1, 2, 0, 0, 1}};
        int[] ns = {0, 1, 2, 3, 23, 24};
        for (int h = 0; h < 3; h++) {
            for (int i = 0; i < ns.length; i++) {
                Due.is("hat " + h + " behind " + ns[i], x.at(h, ns[i], 0), squares[h][i]);
                Due.is("hat " + h + " lies behind " + ns[i], x.at(h, ns[i], 1), lies[h][i]);
            }
        }
        Due.is("nothing changes", x.told(0, 0), 9);
        Due.is("nor how it lies", x.told(0, 1), 1);
    }

    private static void atRefused() {
        Due.of("Promise 15", "-5: no such HAT; -7: n, what.");
        HatDownTheStreet x = new HatDownTheStreet();
        Due.is("no hat", x.at(0, 0, 0), -5);
        x.hat(0, 9, 1);
        int[][] bad = {{-1, 0}, {25, 0}, {0, -1}, {0, 2}, {24, 2}, {Integer.MIN_VALUE, 0}, {Integer.MAX_VALUE, 1}};
        for (int[] b : bad) {
            Due.is("wrong", x.at(0, b[0], b[1]), -7);
            for (int h : NO_SUCH) {
                Due.is("no such hat ahead of it", x.at(h, b[0], b[1]), -5);
            }
        }
        Due.is("behind 0", x.at(0, 0, 0), 9);
        Due.is("behind 24", x.at(0, 24, 1), 1);
    }

    private static void pass() {
        Due.of("Promise 16", "n SECONDS truly pass (GUSTS stay as they are, for what comes): how many HATS are in PUDDLES.");
        HatDownTheStreet x = new HatDownTheStreet();
        x.hat(0, 8, 1);
        x.hat(0, 9, 1);
        x.hat(0, 16, 2);
        x.come(15, 1, 1);
        Due.puddles(x, 13, 8);
        Due.gusts(x, RIGHT + 2, RIGHT + 2, RIGHT + 2);
        Due.is("two are in puddles", x.pass(2), 2);
        Due.is("in a puddle at once", x.told(0, 0), 8);
        Due.is("it lies as it did", x.told(0, 1), 1);
        Due.is("into a puddle", x.told(1, 0), 13);
        Due.is("it lies", x.told(1, 1), 0);
        // On its crown it goes no farther by 2.
        Due.is("not into one", x.told(2, 0), 18);
        Due.is("lies on its crown", x.told(2, 1), 0);
        for (int second = 0; second < 24; second++) {
            Due.is("gusts stay", x.wind(second), second < 3 ? RIGHT + 2 : STILL);
        }
        Due.is("one who catches stays", x.does(0, 0, 15), 15);
        Due.is("three hats still", x.count(0), 3);
        x.set(2, 1, 1);
        Due.is("by the same gusts, the first of them first", x.at(2, 1, 0), 20);
        Due.is("of the first second again", x.pass(1), 2);
        Due.is("it is there", x.told(2, 0), 20);
        Due.is("a puddle goes", x.street(1, 8, 0), 1);
        Due.is("one is in a puddle", x.pass(0), 1);
        Due.is("it goes now", x.told(0, 0), 8);
        Due.is("into the puddle of the other one", x.pass(3), 1);
    }

    private static void passEdges() {
        Due.of("Promise 16", "n SECONDS truly pass (GUSTS stay as they are, for what comes): how many HATS are in PUDDLES.");
        HatDownTheStreet x = new HatDownTheStreet();
        Due.is("no hats", x.pass(24), 0);
        Due.is("no hats and no second", x.pass(0), 0);
        for (int h = 0; h < 4; h++) {
            x.hat(CAP, 8, h % 3);
        }
        Due.puddles(x, 9);
        x.blow(23, 1, 1);
        Due.is("none in puddles", x.pass(0), 0);
        Due.is("23 pass", x.pass(23), 0);
        Due.is("nothing blew", x.told(3, 0), 8);
        Due.is("24 pass: all four in one puddle", x.pass(24), 4);
        for (int h = 0; h < 4; h++) {
            Due.is("there", x.told(h, 0), 9);
            Due.is("as it lay", x.told(h, 1), h % 3);
        }
        Due.is("all four still", x.pass(24), 4);
        Due.of("Promise 16", "how many HATS are in PUDDLES. BAD.");
        for (int n : new int[] {-1, 25, Integer.MIN_VALUE, Integer.MAX_VALUE}) {
            Due.is("pass(" + n + ")", x.pass(n), BAD);
        }
        Due.is("an eddy is no puddle", x.street(1, 9, 0) + 10 * x.street(2, 9, 1), 1);
        Due.is("none", x.pass(0), 0);
    }

    private static void when() {
        Due.of("Promise 17", "The least n BEHIND which a HAT is in a SQUARE; -1: there is none.");
        HatDownTheStreet x = new HatDownTheStreet();
        x.hat(CAP, 8, 0);
        x.hat(0, 24, 1);
        Due.gusts(x, RIGHT + 2, RIGHT + 2, LEFT + 2, RIGHT + 2);
        x.blow(23, 2, 1);
        Due.is("at once", x.when(0, 8), 0);
        Due.is("the least of two", x.when(0, 9), 1);
        Due.is("the least of three", x.when(0, 10), 2);
        Due.is("behind 24", x.when(0, 18), 24);
        Due.is("never", x.when(0, 11), -1);
        Due.is("another hat", x.when(1, 24), 0);
        Due.is("by two", x.when(1, 26), 1);
        Due.is("what it passes it isn't in", x.when(1, 25), -1);
        Due.walls(x, 11);
        Due.is("a square with a wall", x.when(0, 11), -1);
        Due.puddles(x, 8);
        Due.is("in a puddle at once", x.when(0, 8), 0);
        Due.is("and nowhere else", x.when(0, 9), -1);
    }

    private static void whenEdges() {
        Due.of("Promise 17", "-5: no such HAT; -7: no such SQUARE.");
        HatDownTheStreet x = new HatDownTheStreet();
        Due.is("no hat", x.when(0, 0), -5);
        x.hat(CAP, 0, 0);
        Due.everyGust(x, 1, 1);
        Due.is("square 0", x.when(0, 0), 0);
        Due.is("square 7", x.when(0, 7), 7);
        Due.is("square 31", x.when(0, 31), -1);
        for (int c : new int[] {-1, 32, Integer.MIN_VALUE, Integer.MAX_VALUE}) {
            Due.is("no square " + c, x.when(0, c), -7);
            for (int h : NO_SUCH) {
                Due.is("no such hat", x.when(h, 0), -5);
                Due.is("hat ahead of square", x.when(h, c), -5);
            }
        }
    }

    private static void track() {
        Due.of("Promise 18", "SQUARES (bits) in which it is BEHIND any of 0 .. n.");
        HatDownTheStreet x = new HatDownTheStreet();
        Due.is("no hat", x.track(0, 0), 0);
        x.hat(1, 24, 1);
        Due.gusts(x, RIGHT + 7, UP + 2);
        x.blow(23, 3, 3);
        Due.is("behind 0", x.track(0, 0), Due.bits(24));
        Due.is("not what it passed", x.track(0, 1), Due.bits(24, 31));
        Due.is("behind 2", x.track(0, 2), Due.bits(24, 31, 15));
        Due.is("behind 23", x.track(0, 23), Due.bits(24, 31, 15));
        Due.is("behind 24", x.track(0, 24), Due.bits(24, 31, 15, 14));
        x.set(0, 0, 0);
        Due.is("square 0", x.track(0, 0), 1);
        Due.is("where it was is not of it", x.track(0, 1), Due.bits(0, 7));
        Due.of("Promise 18", "0: none such.");
        for (int n : new int[] {-1, 25, Integer.MIN_VALUE, Integer.MAX_VALUE}) {
            Due.is("n " + n, x.track(0, n), 0);
        }
        for (int h : NO_SUCH) {
            Due.is("hat " + h, x.track(h, 24), 0);
        }
        x.hat(CAP, 0, 0);
        Due.is("the second hat", x.track(1, 1), Due.bits(0, 1));
    }

    private static void over() {
        Due.of("Promise 19", "The least n BEHIND which it is in a PUDDLE; -1: there is none.");
        HatDownTheStreet x = new HatDownTheStreet();
        Due.is("no hat", x.over(0), -5);
        x.hat(CAP, 8, 0);
        x.hat(CAP, 16, 0);
        Due.gusts(x, RIGHT + 2, STILL + 2, RIGHT + 2);
        x.blow(23, 1, 1);
        Due.is("never", x.over(0), -1);
        Due.puddles(x, 11);
        Due.is("behind 24", x.over(0), 24);
        Due.puddles(x, 10);
        Due.is("behind 3", x.over(0), 3);
        Due.puddles(x, 9);
        Due.is("behind 1", x.over(0), 1);
        Due.is("the other one never", x.over(1), -1);
        Due.puddles(x, 8);
        Due.is("at once", x.over(0), 0);
        Due.eddies(x, 16);
        Due.is("an eddy is no puddle", x.over(1), -1);
        x = new HatDownTheStreet();
        x.hat(0, 0, 1);
        x.blow(0, 1, 9);
        Due.puddles(x, 7);
        Due.is("a puddle at the edge", x.over(0), 1);
        x.blow(0, 1, 6);
        Due.is("a puddle beside it", x.over(0), -1);
        x.set(0, 0, 31);
        Due.puddles(x, 31);
        Due.is("in square 31", x.over(0), 0);
        Due.of("Promise 19", "-5: no such HAT.");
        for (int h : NO_SUCH) {
            Due.is("hat " + h, x.over(h), -5);
        }
    }

    private static void rounds(String what, HatDownTheStreet x, int h, int days, int less) {
        Due.is(what + ", days", x.round(h, 0), days);
        Due.is(what + ", days less", x.round(h, 1), less);
    }

    private static void round() {
        Due.of("Promise 20", "the least number d of days behind which it is where it was, and LIES as it did, behind fewer days (or at first): what 0 d, 1 d less behind how many that was.");
        HatDownTheStreet x = new HatDownTheStreet();
        x.hat(CAP, 8, 0);
        rounds("it stays", x, 0, 1, 1);
        x.blow(0, 1, 1);
        rounds("to the edge by 7, there on day 8", x, 0, 8, 1);
        x.blow(0, 4, 1);
        x.blow(23, 1, 1);
        rounds("the last second of a day counts", x, 0, 8, 1);
        x.set(0, 0, 15);
        rounds("at the edge at first", x, 0, 1, 1);
        x.set(0, 0, 14);
        rounds("at the edge on day 1", x, 0, 2, 1);
        Due.puddles(x, 14);
        rounds("in a puddle", x, 0, 1, 1);
        // Out of an eddy to and fro: where it is at first it is never again.
        x = Due.withLaw("goes 1;turns 0;worth 0;");
        x.hat(0, 0, 1);
        Due.eddies(x, 0, 1);
        Due.gusts(x, LEFT, RIGHT);
        rounds("out of an eddy", x, 0, 3, 1);
        // It is where it was each day, but lies otherwise: as at first on day 3.
        x = Due.withLaw("goes 3;turns 2;worth 0;");
        x.hat(BALL, 8, 1);
        Due.gusts(x, RIGHT, LEFT);
        rounds("a ball that turns over by 4 a day", x, 0, 3, 3);
        x.blow(1, 3, 0);
        x.set(0, 1, 0);
        rounds("however it lies at first", x, 0, 3, 3);
        // Lying 1, then 0 as it is there: on its crown by 1 it goes no more.
        x = Due.withLaw("goes 1;turns 1;worth 0;");
        x.hat(0, 8, 1);
        Due.gusts(x, RIGHT, LEFT);
        rounds("it lies on its crown then", x, 0, 2, 1);
        x.set(0, 1, 2);
        rounds("on its brim: a square on, on its crown there", x, 0, 2, 1);
        x = new HatDownTheStreet();
        x.hat(CAP, 18, 0);
        Due.eddies(x, 18);
        x.blow(5, 1, 1);
        rounds("down out of the eddy, then to the edge", x, 0, 7, 1);
        // A ball that goes there and back in two days, and turns over by 1 each day.
        x = new HatDownTheStreet();
        x.hat(BALL + 1, 8, 1);
        Due.eddies(x, 9);
        x.blow(5, 1, 0);
        rounds("there and back each second day, lying so each third", x, 0, 6, 6);
        x.set(0, 0, 7);
        rounds("at the edge it doesn't turn over", x, 0, 1, 1);
    }

    /** Cycles by what the text says: 8 squares of a row to and fro, and lying otherwise each time. */
    private static void roundOfManyDays() {
        Due.of("Promise 20", "Days of 24 SECONDS with these GUSTS, one behind the other");
        // To the right, but from the edge 7 back: 8 days round.
        String row = "(second = 0) * (1 - (cell = 15)) + (second = 1) * (cell = 15) * 7";
        HatDownTheStreet x = Due.withLaw("goes " + row + ";turns 0;worth 0;");
        x.hat(0, 8, 1);
        Due.gusts(x, RIGHT, LEFT);
        // In 15 behind second 0 of day 7, it goes back to 8 in second 1 of that day.
        rounds("round a row", x, 0, 7, 7);
        // A ball with 1 goes back in an eddy, and turns over by 1 with each square that it goes.
        x = new HatDownTheStreet();
        x.hat(BALL + 1, 2, 0);
        Due.eddies(x, 3, 5, 6, 8, 14, 15, 16, 17, 19, 21, 22, 25, 26, 27, 28, 30, 31);
        Due.gusts(x, RIGHT, DOWN);
        rounds("by two gusts a day and many eddies", x, 0, 48, 45);
        int[] seen = new int[96];
        for (int day = 1; day <= 48; day++) {
            seen[3 * x.told(0, 0) + x.told(0, 1)] = day;
            x.pass(24);
        }
        Due.is("the 48 days truly pass: as behind 3", seen[3 * x.told(0, 0) + x.told(0, 1)], 4);
        rounds("it is in the midst of it", x, 0, 45, 45);
    }

    /** Wherever it is and however it lies: what was asked before leaves nothing behind. */
    private static void roundAgain() {
        Due.of("Promise 20", "behind fewer days (or at first): what 0 d, 1 d less behind how many that was.");
        HatDownTheStreet x = new HatDownTheStreet();
        x.hat(CAP, 0, 0);
        for (int lie = 0; lie <= 2; lie++) {
            x.set(0, 1, lie);
            for (int c = 0; c < 32; c++) {
                x.set(0, 0, c);
                rounds("in " + c + " lying " + lie, x, 0, 1, 1);
                if (c % 31 == 0) {
                    rounds("again in " + c + " lying " + lie, x, 0, 1, 1);
                }
            }
        }
        x = new HatDownTheStreet();
        x.hat(CAP, 0, 0);
        x.blow(0, 3, 1);
        for (int c = 7; c >= 0; c--) {
            x.set(0, 0, c);
            rounds("to the left from " + c, x, 0, c + 1, 1);
        }
        x.set(0, 1, 2);
        x.blow(0, 2, 1);
        for (int c = 7; c < 32; c += 8) {
            x.set(0, 0, c);
            rounds("down from " + c, x, 0, 4 - c / 8, 1);
        }
    }

    private static void roundRefused() {
        Due.of("Promise 20", "-5: no such HAT; -7: what.");
        HatDownTheStreet x = new HatDownTheStreet();
        Due.is("no hat", x.round(0, 0), -5);
        x.hat(CAP, 8, 0);
        for (int what : new int[] {-1, 2, Integer.MIN_VALUE, Integer.MAX_VALUE}) {
            Due.is("what " + what, x.round(0, what), -7);
            for (int h : NO_SUCH) {
                Due.is("hat " + h, x.round(h, 0), -5);
                Due.is("hat ahead of what", x.round(h, what), -5);
            }
        }
    }

    private static void from() {
        Due.of("Promise 21", "SQUARES without WALL (bits) from which, were it there, LYING as it does, it would be in a SQUARE BEHIND n.");
        HatDownTheStreet x = new HatDownTheStreet();
        x.hat(0, 8, 1);
        x.hat(0, 12, 1);
        x.come(10, 0, 0);
        Due.gusts(x, RIGHT + 9);
        Due.is("a whole row, hats and catchers in it", x.from(0, 1, 15), 0xFF00);
        Due.is("the last row", x.from(0, 1, 31), 0xFF000000);
        Due.is("nothing comes there", x.from(0, 1, 14), 0);
        Due.walls(x, 11);
        Due.is("behind a wall", x.from(0, 1, 15), 0xF000);
        Due.is("ahead of it", x.from(0, 1, 10), 0x0700);
        Due.is("not of the wall", x.from(0, 0, 11), 0);
        Due.is("nor to it", x.from(0, 24, 11), 0);
        Due.puddles(x, 13);
        Due.is("by a puddle, and in it", x.from(0, 1, 13), 0x3000);
        Due.is("behind it", x.from(0, 24, 15), 0xC000);
        x.set(0, 1, 0);
        Due.is("on its crown three", x.from(0, 1, 3), 1);
        Due.is("on its crown to the wall", x.from(0, 1, 10), 0x0700);
        Due.is("the other one on its rim", x.from(1, 1, 7), 0xFF);
        Due.is("nothing changes", x.told(0, 0), 8);
    }

    private static void fromEdges() {
        Due.of("Promise 21", "SQUARES without WALL (bits) from which, were it there, LYING as it does, it would be in a SQUARE BEHIND n.");
        HatDownTheStreet x = new HatDownTheStreet();
        Due.is("no hat", x.from(0, 0, 0), 0);
        x.hat(CAP, 8, 1);
        x.blow(23, 2, 1);
        for (int c = 0; c < 32; c += 31) {
            Due.is("behind 0 its own", x.from(0, 0, c), 1 << c);
            Due.is("behind 23 its own", x.from(0, 23, c), 1 << c);
        }
        Due.is("behind 24 that above it, and its own", x.from(0, 24, 31), Due.bits(31, 23));
        Due.is("behind 24 no longer", x.from(0, 24, 0), 0);
        for (int c = 0; c < 31; c++) {
            if (c != 8) {
                Due.is("a wall in " + c, x.street(0, c, 1), 0);
            }
        }
        Due.is("two squares without wall", x.from(0, 24, 31), 1 << 31);
        Due.is("walls all around", x.from(0, 24, 8), 1 << 8);
        Due.of("Promise 21", "0: none such.");
        for (int n : new int[] {-1, 25, Integer.MIN_VALUE, Integer.MAX_VALUE}) {
            Due.is("n " + n, x.from(0, n, 8), 0);
        }
        for (int c : new int[] {-1, 32, Integer.MIN_VALUE, Integer.MAX_VALUE}) {
            Due.is("square " + c, x.from(0, 0, c), 0);
        }
        for (int h : NO_SUCH) {
            Due.is("hat " + h, x.from(h, 0, 8), 0);
        }
    }

    private static void keeps() {
        Due.of("Promise 22", "The SQUARE for which these are most, of like ones the first (what 0; -1: there are none), how many (1; 0).");
        HatDownTheStreet x = new HatDownTheStreet();
        x.hat(0, 8, 1);
        Due.is("of like ones the first", x.keeps(0, 24, 0), 0);
        Due.is("one", x.keeps(0, 24, 1), 1);
        Due.gusts(x, RIGHT + 9);
        Due.is("behind 0", x.keeps(0, 0, 1), 1);
        Due.is("the first edge", x.keeps(0, 1, 0), 7);
        Due.is("eight", x.keeps(0, 1, 1), 8);
        Due.walls(x, 7, 3);
        Due.is("the next", x.keeps(0, 1, 0), 15);
        Due.is("eight of it", x.keeps(0, 1, 1), 8);
        Due.walls(x, 15, 23, 0);
        Due.is("the last", x.keeps(0, 1, 0), 31);
        Due.is("eight of the last", x.keeps(0, 1, 1), 8);
        Due.is("not of a wall", x.keeps(0, 0, 0), 1);
        x = new HatDownTheStreet();
        x.hat(0, 8, 1);
        Due.gusts(x, DOWN + 9, RIGHT + 9);
        Due.walls(x, 7, 15);
        Due.is("nearly all come to the last", x.keeps(0, 2, 0), 31);
        Due.is("so many", x.keeps(0, 2, 1), 30);
        x = new HatDownTheStreet();
        x.hat(0, 8, 1);
        Due.gusts(x, DOWN + 9, RIGHT + 9);
        Due.is("all come to the last", x.keeps(0, 2, 0), 31);
        Due.is("all of them", x.keeps(0, 2, 1), 32);
        x.set(0, 1, 2);
        // Lying on its brim it lies on its crown then, and goes 3 to the right; in the last row it stays on its brim.
        Due.is("lying as it does", x.keeps(0, 2, 1), 12 + 8);
        Due.is("at the edge", x.keeps(0, 2, 0), 31);
    }

    private static void keepsEdges() {
        Due.of("Promise 22", "-5: no such HAT; -7: n, what.");
        HatDownTheStreet x = new HatDownTheStreet();
        Due.is("no hat", x.keeps(0, 0, 0), -5);
        x.hat(CAP, 31, 1);
        x.blow(23, 1, 1);
        int[][] bad = {{-1, 0}, {25, 0}, {0, -1}, {0, 2}, {Integer.MIN_VALUE, 1}, {Integer.MAX_VALUE, 1}, {24, 2}};
        for (int[] b : bad) {
            Due.is("wrong", x.keeps(0, b[0], b[1]), -7);
            for (int h : NO_SUCH) {
                Due.is("no such hat ahead of it", x.keeps(h, b[0], b[1]), -5);
            }
        }
        Due.of("Promise 22", "The SQUARE for which these are most, of like ones the first (what 0; -1: there are none), how many (1; 0).");
        Due.is("behind 23", x.keeps(0, 23, 1), 1);
        Due.is("behind 24", x.keeps(0, 24, 1), 2);
        Due.is("the first of them", x.keeps(0, 24, 0), 7);
        for (int c = 0; c < 31; c++) {
            x.street(0, c, 1);
        }
        Due.is("the only square without wall", x.keeps(0, 24, 0), 31);
        Due.is("one", x.keeps(0, 24, 1), 1);
    }
}
