/** Promises 32 to 36: were it otherwise. */
public final class OtherwiseTest {
    private static final int UP = 0, RIGHT = 10, DOWN = 20, LEFT = 30;

    public static void main(String[] args) {
        held();
        save();
        turned();
        lull();
        fence();
        Due.end();
    }

    private static void held() {
        HatDownTheStreet x = new HatDownTheStreet();
        Due.is("32: no hat", x.held(0, 0, 0), -5);
        x.hat(20, 8, 1);
        Due.gusts(x, RIGHT + 1, RIGHT + 1, DOWN + 1, RIGHT + 1);
        Due.is("32: not at all", x.held(0, 4, 0), 19);
        Due.is("32: not in second 3", x.held(0, 4, 301), 18);
        Due.is("32: not in seconds 1 and 2", x.held(0, 4, 102), 10);
        Due.is("32: behind 2", x.held(0, 2, 102), 9);
        Due.is("32: all day", x.held(0, 24, 24), 8);
        Due.is("32: beyond the day", x.held(0, 24, 2324), 19);
        Due.is("32: behind what is asked", x.held(0, 2, 2324), 10);
        Due.is("32: none in a later one", x.held(0, 24, 2300), 19);
        int[] wrong = {-1, 25, 99, 125, 2325, 2400, 2401, -100, Integer.MIN_VALUE, Integer.MAX_VALUE};
        for (int hold : wrong) {
            Due.is("32: hold " + hold, x.held(0, 0, hold), -7);
            Due.is("32: hat ahead of it", x.held(1, 0, hold), -5);
        }
        Due.is("32: n below", x.held(0, -1, 0), -7);
        Due.is("32: n above", x.held(0, 25, 0), -7);
        Due.is("32: hat below", x.held(-1, 0, 0), -5);
    }

    private static void save() {
        HatDownTheStreet x = new HatDownTheStreet();
        Due.is("33: no hat", x.save(0), -5);
        x.hat(20, 8, 1);
        Due.gusts(x, RIGHT + 1, 40, DOWN + 1, RIGHT + 1);
        Due.is("33: none is needed", x.save(0), 0);
        Due.puddles(x, 18);
        // Held in second 0: 8, 16, 17.
        Due.is("33: the least from", x.save(0), 1);
        Due.puddles(x, 16);
        // Held in second 2: 9, 10; in second 3 alone: 17.
        Due.is("33: then that of second 2", x.save(0), 201);
        Due.puddles(x, 10);
        Due.is("33: then that of second 3", x.save(0), 301);
        Due.puddles(x, 17);
        // Held in seconds 0 and 2: from 0 three, in 9; from 2 two, in 9: fewest.
        Due.is("33: two", x.save(0), 202);
        Due.puddles(x, 9);
        Due.is("33: four", x.save(0), 4);
        Due.is("33: so it is", x.held(0, 24, 4), 8);
        Due.puddles(x, 8);
        Due.is("33: there is none", x.save(0), -1);
        Due.is("33: no such hat", x.save(1), -5);
        Due.is("33: nor below", x.save(-1), -5);
        x = new HatDownTheStreet();
        x.hat(20, 8, 1);
        for (int second = 0; second < 24; second++) {
            x.blow(second, 1, 1);
        }
        Due.puddles(x, 15);
        Due.is("33: 18 from second 0", x.save(0), 18);
        Due.puddles(x, 14);
        Due.is("33: 19", x.save(0), 19);
        Due.puddles(x, 9);
        Due.is("33: all day", x.save(0), 24);
        x = new HatDownTheStreet();
        x.hat(20, 8, 1);
        x.blow(23, 1, 1);
        Due.puddles(x, 9);
        Due.is("33: in the last second", x.save(0), 2301);
    }

    private static void turned() {
        HatDownTheStreet x = new HatDownTheStreet();
        Due.is("34: no hat", x.turned(0, 0, 0), -5);
        x.hat(20, 9, 1);
        Due.gusts(x, 40, 41, UP + 1);
        Due.is("34: by a way that is none", x.turned(0, 1, 1), 1 << 4 | 1);
        Due.is("34: to the right", x.turned(0, 1, 2), 2);
        Due.is("34: down", x.turned(0, 1, 9), 4);
        Due.is("34: to the left", x.turned(0, 1, 0), 8);
        Due.is("34: by none", x.turned(0, 1, 31), 0);
        Due.is("34: no strength, all", x.turned(0, 0, 1), 31);
        Due.is("34: it stays as it was", x.wind(1), 41);
        Due.is("34: second below", x.turned(0, -1, 0), -7);
        Due.is("34: second above", x.turned(0, 24, 0), -7);
        Due.is("34: square below", x.turned(0, 0, -1), -7);
        Due.is("34: square above", x.turned(0, 0, 32), -7);
        Due.is("34: hat ahead of them", x.turned(1, 24, 32), -5);
        Due.is("34: hat below", x.turned(-1, 0, 0), -5);
        x.blow(23, 4, 1);
        Due.is("34: the last second", x.turned(0, 23, 2), 2);
        x.blow(0, 2, 1);
        Due.is("34: behind what was ahead", x.turned(0, 23, 10), 2);
    }

    private static void lull() {
        HatDownTheStreet x = new HatDownTheStreet();
        Due.is("35: no hat", x.lull(0, 0, 0), -5);
        x.hat(20, 9, 1);
        Due.is("35: no catcher", x.lull(0, 0, 0), -5);
        x.come(12, 0, 0);
        Due.is("35: none", x.lull(0, 0, 0), -1);
        Due.is("35: as now", x.lull(0, 0, 1), -1);
        Due.gusts(x, RIGHT + 1, DOWN + 1, RIGHT + 1, RIGHT + 1);
        Due.is("35: not now", x.caught(0, 0), -1);
        Due.is("35: second 1", x.lull(0, 0, 0), 1);
        Due.is("35: behind 4", x.lull(0, 0, 1), 4);
        x.does(0, 1, 1);
        Due.is("35: it comes", x.caught(0, 0), 3);
        Due.is("35: sooner, if it does not go aside", x.lull(0, 0, 0), 1);
        Due.is("35: behind 2", x.lull(0, 0, 1), 2);
        x.blow(1, 4, 0);
        Due.is("35: no sooner", x.lull(0, 0, 0), -1);
        Due.is("35: as now", x.lull(0, 0, 1), 2);
        x.does(0, 0, 8);
        Due.gusts(x, RIGHT + 1, RIGHT + 1, RIGHT + 1, 40);
        Due.is("35: it flees", x.caught(0, 0), 4);
        Due.is("35: the first of like ones", x.lull(0, 0, 0), 0);
        Due.is("35: sooner", x.lull(0, 0, 1), 1);
        Due.gusts(x, RIGHT + 1, 40, RIGHT + 1, RIGHT + 1);
        Due.is("35: caught at a lull", x.caught(0, 0), 2);
        Due.is("35: sooner", x.lull(0, 0, 0), 0);
        Due.is("35: gusts stay", x.wind(0), RIGHT + 1);
        HatDownTheStreet y = new HatDownTheStreet();
        y.hat(20, 9, 1);
        y.come(10, 0, 0);
        y.blow(22, 1, 1);
        y.blow(23, 1, 1);
        Due.is("35: had behind 23", y.lull(0, 0, 1), 23);
        y.does(0, 0, 11);
        y.street(0, 12, 1);
        y.blow(21, 1, 1);
        Due.is("35: had as it is", y.lull(0, 0, 0), -1);
        y.does(0, 0, 9);
        y.set(0, 0, 1);
        y.blow(21, 4, 0);
        y.blow(22, 2, 2);
        y.blow(23, 2, 9);
        y.does(0, 2, 0);
        Due.is("35: by one square a second", y.lull(0, 0, 1), 23);
        y.set(0, 0, 8);
        y.does(0, 0, 10);
        y.blow(22, 4, 0);
        y.blow(23, 1, 1);
        Due.is("35: not had, and by no lull", y.lull(0, 0, 1), -1);
        Due.is("35: what below", x.lull(0, 0, -1), -7);
        Due.is("35: what above", x.lull(0, 0, 2), -7);
        Due.is("35: hat ahead of what", x.lull(1, 0, 2), -5);
        Due.is("35: catcher ahead of what", x.lull(0, 1, 2), -5);
    }

    private static void fence() {
        HatDownTheStreet x = new HatDownTheStreet();
        Due.is("36: no hat", x.fence(0, 0, 0), -5);
        x.hat(20, 9, 1);
        Due.is("36: no catcher", x.fence(0, 0, 0), -5);
        x.come(8, 0, 1);
        Due.is("36: had at once", x.fence(0, 0, 0), -1);
        Due.is("36: as now", x.fence(0, 0, 1), 0);
        x.does(0, 2, 0);
        Due.is("36: none", x.fence(0, 0, 0), -1);
        Due.is("36: not now", x.fence(0, 0, 1), -1);
        x.does(0, 1, 1);
        Due.gusts(x, RIGHT + 1, RIGHT + 1, RIGHT + 1);
        Due.is("36: it flees", x.caught(0, 0), 4);
        Due.is("36: a wall ahead of it", x.fence(0, 0, 0), 10);
        Due.is("36: sooner", x.fence(0, 0, 1), 1);
        x.hat(0, 10, 1);
        Due.is("36: not where a hat is", x.fence(0, 0, 0), 11);
        Due.is("36: later", x.fence(0, 0, 1), 2);
        x.come(11, 0, 0);
        Due.is("36: nor a catcher", x.fence(0, 0, 0), 12);
        Due.is("36: still later", x.fence(0, 0, 1), 3);
        Due.is("36: walls stay", x.count(2), 0);
        // A wall is in a catcher's way, too: of squares that do not keep the hat none helps.
        x = new HatDownTheStreet();
        x.hat(20, 10, 1);
        x.come(8, 1, 0);
        Due.gusts(x, LEFT + 1);
        Due.is("36: it comes", x.fence(0, 0, 0), -1);
        Due.is("36: as now", x.fence(0, 0, 1), 1);
        Due.is("36: what below", x.fence(0, 0, -1), -7);
        Due.is("36: what above", x.fence(0, 0, 2), -7);
        Due.is("36: hat ahead of what", x.fence(1, 0, 2), -5);
        Due.is("36: catcher ahead of what", x.fence(0, 1, 2), -5);
        x = new HatDownTheStreet();
        x.hat(20, 2, 1);
        x.come(17, 0, 0);
        x.street(2, 1, 1);
        Due.gusts(x, LEFT + 1, LEFT + 1, DOWN + 1, DOWN + 1);
        // To 1, there in an eddy up, then left by the eddy: in 0, down to 8, 16.
        Due.is("36: it goes by square 0", x.track(0, 24), 1 << 2 | 1 << 1 | 1 | 1 << 8);
        Due.is("36: not now", x.caught(0, 0), -1);
        x.street(2, 1, 0);
        Due.gusts(x, LEFT + 1, LEFT + 1, DOWN + 1, DOWN + 1);
        Due.is("36: a wall in square 0", x.fence(0, 0, 0), 0);
        Due.is("36: then it comes", x.fence(0, 0, 1), 4);
        x = new HatDownTheStreet();
        x.hat(20, 29, 1);
        x.come(22, 0, 0);
        Due.gusts(x, RIGHT + 1, RIGHT + 1, UP + 1);
        Due.is("36: a wall in square 31", x.fence(0, 0, 0), 31);
        // The hat passes one by: only a wall that is there already is left out, puddles are not.
        x = new HatDownTheStreet();
        x.hat(0, 8, 1);
        x.come(17, 0, 1);
        Due.puddles(x, 10);
        Due.eddies(x, 10);
        Due.gusts(x, RIGHT + 7);
        Due.is("36: not now", x.caught(0, 0), -1);
        Due.is("36: in the puddle's place", x.fence(0, 0, 0), 10);
    }
}
