/** Promises 10 to 14: hats, catchers. */
public final class HatsTest {
    public static void main(String[] args) {
        hat();
        set();
        told();
        come();
        does();
        Due.end();
    }

    private static void hat() {
        HatDownTheStreet x = new HatDownTheStreet();
        Due.walls(x, 7);
        int[][] bad = {{-1, 0, 0}, {60, 0, 0}, {0, -1, 0}, {0, 32, 0}, {0, 7, 0}, {0, 0, -1}, {0, 0, 3}};
        for (int[] b : bad) {
            Due.is("10: bad", x.hat(b[0], b[1], b[2]), HatDownTheStreet.BAD);
        }
        Due.is("10: none came", x.count(0), 0);
        Due.is("10: first", x.hat(0, 0, 0), 0);
        Due.is("10: in one square with another", x.hat(59, 0, 2), 1);
        Due.is("10: in a puddle", x.street(1, 31, 1), 0);
        Due.is("10: third", x.hat(37, 31, 1), 2);
        Due.is("10: fourth", x.hat(4, 8, 1), 3);
        Due.is("10: full", x.hat(4, 8, 1), HatDownTheStreet.FULL);
        for (int[] b : bad) {
            Due.is("10: bad ahead of full", x.hat(b[0], b[1], b[2]), HatDownTheStreet.BAD);
        }
        Due.is("10: four", x.count(0), 4);
    }

    private static void set() {
        HatDownTheStreet x = new HatDownTheStreet();
        Due.is("11: none yet", x.set(0, 0, 0), -5);
        Due.walls(x, 7);
        x.hat(23, 4, 2);
        Due.is("11: square", x.set(0, 0, 31), 4);
        Due.is("11: square again", x.set(0, 0, 0), 31);
        Due.is("11: lie", x.set(0, 1, 0), 2);
        Due.is("11: lie again", x.set(0, 1, 1), 0);
        int[][] bad = {{-1, 0}, {2, 0}, {0, -1}, {0, 32}, {0, 7}, {1, -1}, {1, 3}};
        for (int[] b : bad) {
            Due.is("11: wrong", x.set(0, b[0], b[1]), -7);
            Due.is("11: no such hat ahead of it", x.set(1, b[0], b[1]), -5);
            Due.is("11: nor below", x.set(-1, b[0], b[1]), -5);
        }
        Due.is("11: square stays", x.told(0, 0), 0);
        Due.is("11: lie stays", x.told(0, 1), 1);
        Due.is("11: kind stays", x.told(0, 2), 2);
        Due.is("11: more stays", x.told(0, 3), 3);
    }

    private static void told() {
        HatDownTheStreet x = new HatDownTheStreet();
        Due.is("12: none yet", x.told(0, 0), -5);
        x.hat(0, 0, 0);
        x.hat(49, 31, 2);
        int[] due = {31, 2, 4, 9};
        for (int what = 0; what < 4; what++) {
            Due.is("12: told(1, " + what + ")", x.told(1, what), due[what]);
            Due.is("12: told(0, " + what + ")", x.told(0, what), 0);
        }
        Due.is("12: what below", x.told(0, -1), -7);
        Due.is("12: what above", x.told(0, 4), -7);
        Due.is("12: no such hat", x.told(2, 0), -5);
        Due.is("12: hat ahead of what", x.told(2, 4), -5);
        Due.is("12: hat below", x.told(-1, 0), -5);
    }

    private static void come() {
        HatDownTheStreet x = new HatDownTheStreet();
        Due.walls(x, 7);
        int[][] bad = {{-1, 0, 0}, {32, 0, 0}, {7, 0, 0}, {0, -1, 0}, {0, 5, 0}, {0, 0, -1}, {0, 0, 4}};
        for (int[] b : bad) {
            Due.is("13: bad", x.come(b[0], b[1], b[2]), HatDownTheStreet.BAD);
        }
        Due.is("13: none came", x.count(1), 0);
        Due.is("13: first", x.come(0, 0, 0), 0);
        Due.is("13: second", x.come(31, 4, 3), 1);
        Due.is("13: third", x.come(31, 1, 1), 2);
        Due.is("13: fourth", x.come(8, 2, 2), 3);
        Due.is("13: full", x.come(8, 2, 2), HatDownTheStreet.FULL);
        for (int[] b : bad) {
            Due.is("13: bad ahead of full", x.come(b[0], b[1], b[2]), HatDownTheStreet.BAD);
        }
    }

    private static void does() {
        HatDownTheStreet x = new HatDownTheStreet();
        Due.is("14: none yet", x.does(0, 0, 0), -5);
        Due.walls(x, 7);
        x.come(4, 2, 3);
        Due.is("14: square", x.does(0, 0, 31), 4);
        Due.is("14: square again", x.does(0, 0, 9), 31);
        Due.is("14: pace", x.does(0, 1, 4), 2);
        Due.is("14: pace again", x.does(0, 1, 0), 4);
        Due.is("14: reach", x.does(0, 2, 0), 3);
        Due.is("14: reach again", x.does(0, 2, 3), 0);
        int[][] bad = {{-1, 0}, {3, 0}, {0, -1}, {0, 32}, {0, 7}, {1, -1}, {1, 5}, {2, -1}, {2, 4}};
        for (int[] b : bad) {
            Due.is("14: wrong", x.does(0, b[0], b[1]), -7);
            Due.is("14: no such catcher ahead of it", x.does(1, b[0], b[1]), -5);
            Due.is("14: nor below", x.does(-1, b[0], b[1]), -5);
        }
        Due.is("14: square stays", x.does(0, 0, 9), 9);
        Due.is("14: pace stays", x.does(0, 1, 0), 0);
        Due.is("14: reach stays", x.does(0, 2, 3), 3);
    }
}
