/** Promises 32 to 36: were it otherwise. */
public final class OtherwiseTest {
    private static final int UP = 0, RIGHT = 10, DOWN = 20, LEFT = 30, STILL = 40;
    private static final int CAP = 20;
    private static final int[] NO_SUCH = {-1, 1, 4, Integer.MIN_VALUE, Integer.MAX_VALUE};

    public static void main(String[] args) {
        held();
        heldByEachSecond();
        heldRefused();
        save();
        saveEdges();
        saveOfLikeOnes();
        turned();
        turnedEdges();
        lull();
        lullEdges();
        lullOfNoStrength();
        lullRefused();
        fence();
        fencePlaces();
        fenceLikeOnes();
        fenceRefused();
        Due.end();
    }

    private static void held() {
        Due.of("Promise 32", "Its SQUARE BEHIND n, were it HELD in a SECOND from, and those behind it, so many (0 .. 24) in all (hold: 100 times from, and how many).");
        HatDownTheStreet x = new HatDownTheStreet();
        x.hat(CAP, 8, 1);
        Due.gusts(x, RIGHT + 1, RIGHT + 1, DOWN + 1, RIGHT + 1);
        Due.is("not at all", x.held(0, 4, 0), 19);
        Due.is("not in second 3", x.held(0, 4, 301), 18);
        Due.is("not in seconds 1 and 2", x.held(0, 4, 102), 10);
        Due.is("not in 0", x.held(0, 4, 1), 18);
        Due.is("behind 2", x.held(0, 2, 102), 9);
        Due.is("behind 0", x.held(0, 0, 24), 8);
        Due.is("all day", x.held(0, 24, 24), 8);
        Due.is("all but the first", x.held(0, 24, 123), 9);
        Due.is("none in a later one", x.held(0, 24, 2300), 19);
        Due.is("it stays", x.told(0, 0), 8);
    }

    /** A gust down in one second, of which a hold has to take just that one. */
    private static void heldByEachSecond() {
        Due.of("Promise 32", "Its SQUARE BEHIND n, were it HELD in a SECOND from, and those behind it, so many (0 .. 24) in all (hold: 100 times from, and how many).");
        for (int second = 0; second < 24; second++) {
            HatDownTheStreet x = new HatDownTheStreet();
            x.hat(CAP, 8, 1);
            x.blow(second, 2, 1);
            for (int from = 0; from < 24; from++) {
                int many = second - from;
                if (many >= 0) {
                    Due.is("not till second " + second, x.held(0, 24, 100 * from + many), 16);
                    Due.is("till second " + second, x.held(0, 24, 100 * from + many + 1), 8);
                }
                Due.is("from " + from + " beyond the day", x.held(0, 24, 100 * from + 24), from <= second ? 8 : 16);
                Due.is("none from " + from, x.held(0, 24, 100 * from), 16);
            }
        }
    }

    private static void heldRefused() {
        Due.of("Promise 32", "-5: no such HAT; -7: n, hold.");
        HatDownTheStreet x = new HatDownTheStreet();
        Due.is("no hat", x.held(0, 0, 0), -5);
        x.hat(CAP, 8, 1);
        int[] wrong = {-1, 25, 99, 125, 199, 2325, 2399, 2400, 2401, 2424, 10000, -24, -76, -99, -100, Integer.MIN_VALUE, Integer.MAX_VALUE};
        for (int hold : wrong) {
            Due.is("hold " + hold, x.held(0, 0, hold), -7);
            for (int h : NO_SUCH) {
                Due.is("hat ahead of hold " + hold, x.held(h, 0, hold), -5);
            }
        }
        for (int n : new int[] {-1, 25, Integer.MIN_VALUE, Integer.MAX_VALUE}) {
            Due.is("n " + n, x.held(0, n, 0), -7);
            Due.is("hat ahead of n", x.held(1, n, 0), -5);
        }
        Due.is("the last hold", x.held(0, 24, 2324), 8);
    }

    private static void save() {
        Due.of("Promise 33", "The hold of fewest SECONDS by which it would be in no PUDDLE BEHIND 24, of like ones that of the least from; 0: none is needed; -1: there is none.");
        HatDownTheStreet x = new HatDownTheStreet();
        x.hat(CAP, 8, 1);
        Due.gusts(x, RIGHT + 1, STILL, DOWN + 1, RIGHT + 1);
        Due.is("none is needed", x.save(0), 0);
        Due.puddles(x, 18);
        // Held in second 0: 8, 16, 17.
        Due.is("the least from", x.save(0), 1);
        Due.puddles(x, 16);
        // Held in second 2: 9, 10; in second 3 alone: 17.
        Due.is("then that of second 2", x.save(0), 201);
        Due.puddles(x, 10);
        Due.is("then that of second 3", x.save(0), 301);
        Due.puddles(x, 17);
        // Held in seconds 0 and 2: from 0 three, in 9; from 2 two, in 9: fewest.
        Due.is("two", x.save(0), 202);
        Due.puddles(x, 9);
        Due.is("four", x.save(0), 4);
        Due.is("so it is", x.held(0, 24, 4), 8);
        Due.puddles(x, 8);
        Due.is("there is none", x.save(0), -1);
    }

    private static void saveEdges() {
        Due.of("Promise 33", "The hold of fewest SECONDS by which it would be in no PUDDLE BEHIND 24, of like ones that of the least from; 0: none is needed; -1: there is none.");
        HatDownTheStreet x = new HatDownTheStreet();
        x.hat(CAP, 8, 1);
        Due.everyGust(x, 1, 1);
        Due.puddles(x, 15);
        Due.is("18 from second 0", x.save(0), 18);
        Due.puddles(x, 14);
        Due.is("19", x.save(0), 19);
        Due.puddles(x, 9);
        Due.is("all day", x.save(0), 24);
        x.street(1, 9, 0);
        Due.is("19 again", x.save(0), 19);
        Due.puddles(x, 13, 12, 11, 10);
        Due.is("all but one", x.save(0), 23);
        x = new HatDownTheStreet();
        x.hat(CAP, 8, 1);
        x.blow(23, 1, 1);
        Due.is("into no puddle", x.save(0), 0);
        Due.puddles(x, 9);
        Due.is("in the last second", x.save(0), 2301);
        x.blow(23, 4, 1);
        x.blow(0, 1, 1);
        Due.is("in the first second", x.save(0), 1);
        Due.puddles(x, 8);
        Due.is("in a puddle at first", x.save(0), -1);
        Due.of("Promise 33", "-5: no such HAT.");
        for (int h : NO_SUCH) {
            Due.is("hat " + h, x.save(h), -5);
        }
        Due.is("no hat", new HatDownTheStreet().save(0), -5);
    }

    private static void saveOfLikeOnes() {
        Due.of("Promise 33", "The hold of fewest SECONDS by which it would be in no PUDDLE BEHIND 24, of like ones that of the least from; 0: none is needed; -1: there is none.");
        // Any one of seconds 5, 9, 20 keeps it from the third square.
        HatDownTheStreet x = new HatDownTheStreet();
        x.hat(CAP, 8, 1);
        for (int second : new int[] {5, 9, 20}) {
            x.blow(second, 1, 1);
        }
        Due.puddles(x, 11);
        Due.is("of three the first", x.save(0), 501);
        Due.puddles(x, 10);
        // Two of the three: 5 to 9 are five seconds, 9 to 20 twelve.
        Due.is("the shorter one", x.save(0), 505);
        x.blow(5, 4, 1);
        x.blow(13, 1, 1);
        // 9 to 13 are five again, 13 to 20 eight.
        Due.is("the shorter one again", x.save(0), 905);
        x.blow(13, 4, 1);
        x.blow(16, 1, 1);
        // 9 to 16 are eight, 16 to 20 five.
        Due.is("the later one, as it is shorter", x.save(0), 1605);
    }

    private static void turned() {
        Due.of("Promise 34", "WAYS (bits 0 .. 4) by which, were they that of the GUST of a SECOND, it would be in a SQUARE BEHIND 24.");
        HatDownTheStreet x = new HatDownTheStreet();
        x.hat(CAP, 9, 1);
        Due.gusts(x, STILL, STILL + 1, UP + 1);
        Due.is("up, and by the way that is none", x.turned(0, 1, 1), Due.bits(0, 4));
        Due.is("to the right", x.turned(0, 1, 2), Due.bits(1));
        Due.is("down", x.turned(0, 1, 9), Due.bits(2));
        Due.is("to the left", x.turned(0, 1, 0), Due.bits(3));
        Due.is("by none", x.turned(0, 1, 31), 0);
        Due.is("no strength: all", x.turned(0, 0, 1), Due.bits(0, 1, 2, 3, 4));
        Due.is("not in second 2: still", x.turned(0, 2, 9), Due.bits(4));
        Due.is("its own way counts", x.turned(0, 2, 1), Due.bits(0));
        Due.is("it stays as it was", x.wind(1), STILL + 1);
        Due.is("that, too", x.wind(2), UP + 1);
    }

    private static void turnedEdges() {
        Due.of("Promise 34", "WAYS (bits 0 .. 4) by which, were they that of the GUST of a SECOND, it would be in a SQUARE BEHIND 24.");
        HatDownTheStreet x = new HatDownTheStreet();
        x.hat(CAP, 9, 1);
        x.blow(23, 4, 1);
        Due.is("the last second", x.turned(0, 23, 10), Due.bits(1));
        Due.is("as it is", x.turned(0, 23, 9), Due.bits(4));
        x.blow(0, 2, 1);
        Due.is("behind what was ahead", x.turned(0, 23, 18), Due.bits(1));
        Due.is("the first second", x.turned(0, 0, 8), Due.bits(3));
        Due.is("square 0 by none", x.turned(0, 0, 0), 0);
        x.set(0, 0, 0);
        Due.is("none is to the left", x.turned(0, 23, 8), Due.bits(3, 4));
        x.set(0, 0, 31);
        Due.is("square 31", x.turned(0, 0, 31), Due.bits(1, 2, 4));
        Due.eddies(x, 31);
        Due.is("in an eddy", x.turned(0, 0, 31), Due.bits(0, 1, 4));
        Due.puddles(x, 31);
        Due.is("in a puddle", x.turned(0, 0, 31), Due.bits(0, 1, 2, 3, 4));
        Due.of("Promise 34", "-5: no such HAT; -7: SECOND, SQUARE.");
        for (int second : new int[] {-1, 24, Integer.MIN_VALUE, Integer.MAX_VALUE}) {
            Due.is("second " + second, x.turned(0, second, 0), -7);
            Due.is("hat ahead of second", x.turned(1, second, 0), -5);
        }
        for (int c : new int[] {-1, 32, Integer.MIN_VALUE, Integer.MAX_VALUE}) {
            Due.is("square " + c, x.turned(0, 0, c), -7);
            Due.is("hat ahead of square", x.turned(1, 0, c), -5);
        }
        for (int h : NO_SUCH) {
            Due.is("hat " + h, x.turned(h, 0, 0), -5);
        }
    }

    private static void lulls(String what, HatDownTheStreet x, int second, int n) {
        Due.is(what, x.lull(0, 0, 0), second);
        Due.is(what + ", n", x.lull(0, 0, 1), n);
    }

    private static void lull() {
        Due.of("Promise 35", "The SECOND by which, were its GUST's WAY 4, one would have HAD it first, if sooner than now (or not now), of like ones the first (what 0; -1: none), n (1; as now, if none).");
        HatDownTheStreet x = new HatDownTheStreet();
        x.hat(CAP, 9, 1);
        x.come(12, 0, 0);
        lulls("no gusts, not had", x, -1, -1);
        Due.gusts(x, RIGHT + 1, DOWN + 1, RIGHT + 1, RIGHT + 1);
        Due.is("not had now", x.caught(0, 0), -1);
        lulls("second 1", x, 1, 4);
        x.does(0, 1, 1);
        Due.is("it comes", x.caught(0, 0), 3);
        lulls("sooner, if it does not go aside", x, 1, 2);
        x.blow(1, 4, 0);
        lulls("no sooner: as now", x, -1, 2);
        x.does(0, 0, 8);
        Due.gusts(x, RIGHT + 1, RIGHT + 1, RIGHT + 1, STILL);
        Due.is("it flees", x.caught(0, 0), 4);
        // By a lull of any second till then one has it behind that second.
        lulls("that which is soonest", x, 0, 1);
        Due.is("gusts stay", x.wind(0), RIGHT + 1);
        x.does(0, 0, 9);
        lulls("had at once: none sooner", x, -1, 0);
    }

    private static void lullEdges() {
        Due.of("Promise 35", "The SECOND by which, were its GUST's WAY 4, one would have HAD it first, if sooner than now (or not now), of like ones the first (what 0; -1: none), n (1; as now, if none).");
        // From 9 down by second 2, to the right by 22 and 23; one waits in 11.
        HatDownTheStreet x = new HatDownTheStreet();
        x.hat(CAP, 9, 1);
        x.come(11, 0, 0);
        x.blow(2, 2, 1);
        x.blow(22, 1, 1);
        x.blow(23, 1, 1);
        lulls("behind 24", x, 2, 24);
        x.blow(2, 4, 1);
        lulls("as now, behind 24", x, -1, 24);
        x.does(0, 0, 10);
        Due.is("behind 23", x.caught(0, 0), 23);
        lulls("no sooner", x, -1, 23);
        // Up by second 22, to the right by 23; one waits beside where it was, or to its right.
        x = new HatDownTheStreet();
        x.hat(CAP, 17, 1);
        x.come(16, 0, 0);
        x.blow(22, 0, 1);
        x.blow(23, 1, 1);
        lulls("by no lull", x, -1, -1);
        x.does(0, 0, 18);
        lulls("second 22", x, 22, 24);
        x = new HatDownTheStreet();
        x.hat(CAP, 8, 1);
        x.come(10, 0, 0);
        Due.gusts(x, RIGHT + 2, DOWN + 1, DOWN + 1, UP + 1, RIGHT + 1, RIGHT + 1);
        // 9, 17, 25, 17, 18, 19. Without second 1: 9, 17, 9, 10; without 2: the same; without 3: never.
        lulls("of like ones the first", x, 1, 5);
    }

    /** A ball goes 1 by no strength, too. */
    private static void lullOfNoStrength() {
        Due.of("Promise 35", "The SECOND by which, were its GUST's WAY 4, one would have HAD it first");
        HatDownTheStreet x = new HatDownTheStreet();
        x.hat(30, 9, 1);
        x.come(9, 0, 0);
        x.does(0, 0, 10);
        Due.gusts(x, DOWN, RIGHT);
        lulls("second 0", x, 0, 2);
        x.does(0, 0, 17);
        lulls("had now as by none", x, -1, 1);
    }

    private static void lullRefused() {
        Due.of("Promise 35", "-5: no such HAT, CATCHER; -7: what.");
        HatDownTheStreet x = new HatDownTheStreet();
        Due.is("neither", x.lull(0, 0, 0), -5);
        x.hat(CAP, 9, 1);
        Due.is("no catcher", x.lull(0, 0, 0), -5);
        x.come(9, 0, 0);
        for (int what : new int[] {-1, 2, Integer.MIN_VALUE, Integer.MAX_VALUE}) {
            Due.is("what " + what, x.lull(0, 0, what), -7);
            for (int i : NO_SUCH) {
                Due.is("hat " + i, x.lull(i, 0, 0), -5);
                Due.is("catcher " + i, x.lull(0, i, 1), -5);
                Due.is("hat ahead of what", x.lull(i, 0, what), -5);
                Due.is("catcher ahead of what", x.lull(0, i, what), -5);
            }
        }
    }

    private static void fences(String what, HatDownTheStreet x, int square, int n) {
        Due.is(what, x.fence(0, 0, 0), square);
        Due.is(what + ", n", x.fence(0, 0, 1), n);
    }

    private static void fence() {
        Due.of("Promise 36", "Likewise the SQUARE without WALL, HAT, CATCHER by which, had it a WALL.");
        HatDownTheStreet x = new HatDownTheStreet();
        x.hat(CAP, 9, 1);
        x.come(8, 0, 1);
        fences("had at once: as now", x, -1, 0);
        x.does(0, 2, 0);
        fences("none, not had", x, -1, -1);
        x.does(0, 1, 1);
        Due.gusts(x, RIGHT + 1, RIGHT + 1, RIGHT + 1);
        Due.is("it flees", x.caught(0, 0), 4);
        fences("a wall ahead of it", x, 10, 1);
        x.hat(0, 10, 1);
        fences("not where a hat is", x, 11, 2);
        x.come(11, 0, 0);
        fences("nor a catcher", x, 12, 3);
        Due.walls(x, 12);
        Due.is("by the wall that is there", x.caught(0, 0), 3);
        fences("none sooner", x, -1, 3);
        Due.is("walls stay", x.count(2), Due.bits(12));
        x = new HatDownTheStreet();
        x.hat(CAP, 10, 1);
        x.come(8, 1, 0);
        Due.gusts(x, LEFT + 1);
        fences("it comes: as now", x, -1, 1);
    }

    private static void fenceRefused() {
        Due.of("Promise 36", "-5, -7 likewise.");
        HatDownTheStreet x = new HatDownTheStreet();
        Due.is("neither", x.fence(0, 0, 0), -5);
        x.hat(CAP, 9, 1);
        Due.is("no catcher", x.fence(0, 0, 0), -5);
        x.come(9, 0, 0);
        for (int what : new int[] {-1, 2, Integer.MIN_VALUE, Integer.MAX_VALUE}) {
            Due.is("what " + what, x.fence(0, 0, what), -7);
            for (int i : NO_SUCH) {
                Due.is("hat " + i, x.fence(i, 0, 0), -5);
                Due.is("catcher " + i, x.fence(0, i, 1), -5);
                Due.is("hat ahead of what", x.fence(i, 0, what), -5);
                Due.is("catcher ahead of what", x.fence(0, i, what), -5);
            }
        }
    }

    private static void fencePlaces() {
        Due.of("Promise 36", "Likewise the SQUARE without WALL, HAT, CATCHER by which, had it a WALL.");
        HatDownTheStreet x = new HatDownTheStreet();
        x.hat(CAP, 2, 1);
        x.come(17, 0, 0);
        Due.gusts(x, LEFT + 1, LEFT + 1, DOWN + 1, DOWN + 1);
        Due.is("it goes by square 0", x.track(0, 24), Due.bits(2, 1, 0, 8, 16));
        fences("a wall in square 0", x, 0, 4);
        x = new HatDownTheStreet();
        x.hat(CAP, 29, 1);
        x.come(22, 0, 0);
        Due.gusts(x, RIGHT + 1, RIGHT + 1, UP + 1);
        fences("a wall in square 31", x, 31, 3);
        x.blow(2, 4, 0);
        x.blow(23, 0, 1);
        fences("behind 24", x, 31, 24);
        // A puddle or an eddy is no matter: there, too, a wall can be thought.
        x = new HatDownTheStreet();
        x.hat(0, 8, 1);
        x.come(17, 0, 1);
        Due.puddles(x, 10);
        Due.eddies(x, 10);
        Due.gusts(x, RIGHT + 7);
        fences("in the puddle's place", x, 10, 1);
        // Up twice and down once: only a wall in 10 keeps it in 18, from where it comes down to 26.
        x = new HatDownTheStreet();
        x.hat(CAP, 18, 1);
        x.come(26, 0, 0);
        Due.gusts(x, UP + 1, UP + 1, DOWN + 1);
        fences("a wall that keeps it from going", x, 10, 3);
        // In 10, ahead of a wall in 11, it is 4 squares far, as the wall is in the catcher's way, too.
        x = new HatDownTheStreet();
        x.hat(0, 8, 1);
        x.come(12, 0, 2);
        x.blow(0, 1, 7);
        Due.is("in 15 it is 3 squares far", x.caught(0, 0), -1);
        fences("a wall that is in nobody's way", x, 13, 1);
        // None lets one who comes be sooner.
        x = new HatDownTheStreet();
        x.hat(CAP, 0, 1);
        x.come(2, 1, 0);
        fences("none is of use", x, -1, 2);
    }

    private static void fenceLikeOnes() {
        Due.of("Promise 36", "Likewise the SQUARE without WALL, HAT, CATCHER by which, had it a WALL.");
        HatDownTheStreet x = new HatDownTheStreet();
        x.hat(0, 8, 1);
        x.come(18, 0, 2);
        x.blow(0, 1, 6);
        Due.is("in 14 it is 5 squares far", x.caught(0, 0), -1);
        // Ahead of 10 it stops in 9, ahead of 11 in 10, ahead of 12 in 11: each within 2; of 13 in 12 not.
        fences("of like ones the first", x, 10, 1);
        x.come(10, 0, 0);
        fences("then the second", x, 11, 1);
        x.come(11, 0, 0);
        fences("then the third", x, 12, 1);
        x.come(12, 0, 0);
        fences("then none", x, -1, -1);
    }
}
