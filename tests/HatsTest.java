/** Promises 10 to 14: hats, catchers. */
public final class HatsTest {
    private static final int BAD = HatDownTheStreet.BAD, FULL = HatDownTheStreet.FULL;
    private static final int[] NO_SUCH = {-1, 4, Integer.MIN_VALUE, Integer.MAX_VALUE};

    public static void main(String[] args) {
        hat();
        hatRefused();
        set();
        setRefused();
        told();
        come();
        comeRefused();
        does();
        doesRefused();
        Due.end();
    }

    private static void hat() {
        Due.of("Promise 10", "A HAT (kindMore: 10 times KIND, and MORE; SQUARE; how it LIES): its number.");
        for (int kindMore = 0; kindMore <= 59; kindMore++) {
            HatDownTheStreet x = new HatDownTheStreet();
            int c = kindMore % 32;
            int lie = kindMore % 3;
            Due.is("hat(" + kindMore + ")", x.hat(kindMore, c, lie), 0);
            Due.is("its square", x.told(0, 0), c);
            Due.is("it lies", x.told(0, 1), lie);
            Due.is("its kind", x.told(0, 2), kindMore / 10);
            Due.is("its more", x.told(0, 3), kindMore % 10);
        }
        HatDownTheStreet x = new HatDownTheStreet();
        Due.puddles(x, 31);
        Due.eddies(x, 31);
        x.come(31, 0, 0);
        Due.is("first", x.hat(0, 0, 0), 0);
        Due.is("in one square with another", x.hat(59, 0, 2), 1);
        Due.is("in a puddle, an eddy, with a catcher", x.hat(37, 31, 1), 2);
        Due.is("fourth", x.hat(4, 8, 1), 3);
        Due.is("four", x.count(0), 4);
        Due.of("Promise 10", "BAD (a WALL is there, too); FULL.");
        Due.is("full", x.hat(4, 8, 1), FULL);
        x.does(0, 2, 3);
        Due.is("one is had", x.run(2, 0), 0);
        Due.is("there is room again", x.hat(0, 0, 0), 3);
        for (int what = 0; what < 4; what++) {
            Due.is("as told", x.told(3, what), 0);
        }
        Due.is("full again", x.hat(4, 8, 1), FULL);
    }

    private static void hatRefused() {
        Due.of("Promise 10", "BAD (a WALL is there, too); FULL.");
        HatDownTheStreet x = new HatDownTheStreet();
        Due.walls(x, 7);
        int[][] bad = {{-1, 0, 0}, {60, 0, 0}, {0, -1, 0}, {0, 32, 0}, {0, 7, 0}, {0, 0, -1}, {0, 0, 3},
            {Integer.MIN_VALUE, 0, 0}, {Integer.MAX_VALUE, 0, 0}};
        for (int[] b : bad) {
            Due.is("bad", x.hat(b[0], b[1], b[2]), BAD);
        }
        Due.is("none came", x.count(0), 0);
        for (int h = 0; h < 4; h++) {
            x.hat(0, 0, 0);
        }
        for (int[] b : bad) {
            Due.is("bad ahead of full", x.hat(b[0], b[1], b[2]), BAD);
        }
        Due.is("full", x.hat(0, 0, 0), FULL);
        x.street(0, 7, 0);
        Due.is("full, where no wall is any more", x.hat(0, 7, 0), FULL);
    }

    private static void set() {
        Due.of("Promise 11", "A HAT's SQUARE (what 0), how it LIES (1) becomes v: what it was.");
        HatDownTheStreet x = new HatDownTheStreet();
        x.hat(0, 5, 0);
        x.hat(23, 4, 2);
        int was = 4;
        for (int c = 0; c < 32; c++) {
            Due.is("to " + c, x.set(1, 0, c), was);
            Due.is("it is in " + c, x.told(1, 0), c);
            was = c;
        }
        Due.is("to where it is", x.set(1, 0, 31), 31);
        Due.is("it lies as it did", x.told(1, 1), 2);
        Due.is("on its crown", x.set(1, 1, 0), 2);
        Due.is("on its rim", x.set(1, 1, 1), 0);
        Due.is("on its brim", x.set(1, 1, 2), 1);
        Due.is("as it does", x.set(1, 1, 2), 2);
        Due.is("it is where it was", x.told(1, 0), 31);
        Due.is("its kind stays", x.told(1, 2), 2);
        Due.is("its more stays", x.told(1, 3), 3);
        Due.is("the other one stays", x.told(0, 0), 5);
        Due.is("and lies as it does", x.told(0, 1), 0);
        Due.puddles(x, 9);
        Due.eddies(x, 10);
        x.come(11, 0, 0);
        Due.is("to a puddle", x.set(0, 0, 9), 5);
        Due.is("to an eddy", x.set(0, 0, 10), 9);
        Due.is("to a catcher", x.set(0, 0, 11), 10);
        Due.is("to another hat", x.set(0, 0, 31), 11);
    }

    private static void setRefused() {
        Due.of("Promise 11", "-5: no such HAT; -7: what, v (a SQUARE with a WALL, too).");
        HatDownTheStreet x = new HatDownTheStreet();
        Due.is("none yet", x.set(0, 0, 0), -5);
        Due.walls(x, 7);
        x.hat(23, 4, 1);
        int[][] bad = {{-1, 0}, {2, 0}, {0, -1}, {0, 32}, {0, 7}, {1, -1}, {1, 3}, {1, 31}, {0, Integer.MIN_VALUE},
            {1, Integer.MAX_VALUE}};
        for (int[] b : bad) {
            Due.is("wrong", x.set(0, b[0], b[1]), -7);
            Due.is("the hat after the last, ahead of it", x.set(1, b[0], b[1]), -5);
            for (int h : NO_SUCH) {
                Due.is("no such hat ahead of it", x.set(h, b[0], b[1]), -5);
            }
        }
        Due.is("its square stays", x.told(0, 0), 4);
        Due.is("as it lies", x.told(0, 1), 1);
        x.street(0, 7, 0);
        Due.is("where no wall is any more", x.set(0, 0, 7), 4);
    }

    private static void told() {
        Due.of("Promise 12", "Of a HAT what 0 SQUARE, 1 how it LIES, 2 KIND, 3 MORE.");
        HatDownTheStreet x = new HatDownTheStreet();
        Due.is("none yet", x.told(0, 0), -5);
        int[][] hats = {{0, 0, 0, 0}, {31, 2, 4, 9}, {17, 1, 5, 3}, {8, 0, 1, 6}};
        for (int[] h : hats) {
            x.hat(10 * h[2] + h[3], h[0], h[1]);
        }
        for (int h = 0; h < 4; h++) {
            for (int what = 0; what < 4; what++) {
                Due.is("told(" + h + ", " + what + ")", x.told(h, what), hats[h][what]);
            }
        }
        Due.of("Promise 12", "-5: no such HAT; -7: what.");
        for (int what : new int[] {-1, 4, Integer.MIN_VALUE, Integer.MAX_VALUE}) {
            Due.is("what " + what, x.told(0, what), -7);
            for (int h : NO_SUCH) {
                Due.is("no such hat", x.told(h, 0), -5);
                Due.is("hat ahead of what", x.told(h, what), -5);
            }
        }
    }

    private static void come() {
        Due.of("Promise 13", "A CATCHER (SQUARE, PACE, REACH): its number.");
        for (int c = 0; c < 32; c++) {
            HatDownTheStreet x = new HatDownTheStreet();
            Due.is("come(" + c + ")", x.come(c, c % 5, c % 4), 0);
            Due.is("its square", x.does(0, 0, 0), c);
            Due.is("its pace", x.does(0, 1, 0), c % 5);
            Due.is("its reach", x.does(0, 2, 0), c % 4);
        }
        HatDownTheStreet x = new HatDownTheStreet();
        Due.puddles(x, 31);
        Due.eddies(x, 31);
        x.hat(0, 31, 0);
        Due.is("first", x.come(0, 0, 0), 0);
        Due.is("in a puddle, an eddy, with a hat", x.come(31, 4, 3), 1);
        Due.is("in one square with another", x.come(31, 1, 1), 2);
        Due.is("fourth", x.come(8, 2, 2), 3);
        Due.of("Promise 13", "BAD (a WALL is there, too); FULL.");
        Due.is("full", x.come(8, 2, 2), FULL);
        Due.is("four", x.count(1), 4);
        Due.is("a hat is had", x.run(0, 1), 0);
        Due.is("full still", x.come(8, 2, 2), FULL);
    }

    private static void comeRefused() {
        Due.of("Promise 13", "BAD (a WALL is there, too); FULL.");
        HatDownTheStreet x = new HatDownTheStreet();
        Due.walls(x, 7);
        int[][] bad = {{-1, 0, 0}, {32, 0, 0}, {7, 0, 0}, {0, -1, 0}, {0, 5, 0}, {0, 0, -1}, {0, 0, 4}};
        for (int[] b : bad) {
            Due.is("bad", x.come(b[0], b[1], b[2]), BAD);
        }
        Due.is("none came", x.count(1), 0);
        for (int p = 0; p < 4; p++) {
            x.come(0, 0, 0);
        }
        for (int[] b : bad) {
            Due.is("bad ahead of full", x.come(b[0], b[1], b[2]), BAD);
        }
        Due.is("full", x.come(0, 0, 0), FULL);
    }

    private static void does() {
        Due.of("Promise 14", "A CATCHER's SQUARE (what 0), PACE (1), REACH (2) becomes v: what it was.");
        HatDownTheStreet x = new HatDownTheStreet();
        x.come(5, 1, 1);
        x.come(4, 2, 3);
        int was = 4;
        for (int c = 0; c < 32; c++) {
            Due.is("square " + c, x.does(1, 0, c), was);
            was = c;
        }
        int[] paces = {0, 4, 1, 3, 2, 2};
        was = 2;
        for (int pace : paces) {
            Due.is("pace " + pace, x.does(1, 1, pace), was);
            was = pace;
        }
        int[] reaches = {0, 3, 1, 2, 2};
        was = 3;
        for (int reach : reaches) {
            Due.is("reach " + reach, x.does(1, 2, reach), was);
            was = reach;
        }
        Due.is("where one is", x.does(1, 0, 31), 31);
        Due.is("its square stays", x.does(1, 0, 0), 31);
        Due.is("the other's square", x.does(0, 0, 0), 5);
        Due.is("the other's pace", x.does(0, 1, 0), 1);
        Due.is("the other's reach", x.does(0, 2, 0), 1);
        Due.puddles(x, 9);
        Due.eddies(x, 10);
        x.hat(0, 11, 0);
        Due.is("to a puddle", x.does(0, 0, 9), 0);
        Due.is("to an eddy", x.does(0, 0, 10), 9);
        Due.is("to a hat", x.does(0, 0, 11), 10);
        Due.is("to the other one", x.does(1, 0, 11), 0);
    }

    private static void doesRefused() {
        Due.of("Promise 14", "-5: no such CATCHER; -7: what, v (a SQUARE with a WALL, too).");
        HatDownTheStreet x = new HatDownTheStreet();
        Due.is("none yet", x.does(0, 0, 0), -5);
        Due.walls(x, 7);
        x.come(4, 2, 3);
        int[][] bad = {{-1, 0}, {3, 0}, {0, -1}, {0, 32}, {0, 7}, {1, -1}, {1, 5}, {2, -1}, {2, 4}, {0, Integer.MIN_VALUE},
            {1, Integer.MAX_VALUE}, {2, Integer.MIN_VALUE}};
        for (int[] b : bad) {
            Due.is("wrong", x.does(0, b[0], b[1]), -7);
            Due.is("the catcher after the last, ahead of it", x.does(1, b[0], b[1]), -5);
            for (int p : NO_SUCH) {
                Due.is("no such catcher ahead of it", x.does(p, b[0], b[1]), -5);
            }
        }
        Due.is("its square stays", x.does(0, 0, 9), 4);
        Due.is("its pace stays", x.does(0, 1, 0), 2);
        Due.is("its reach stays", x.does(0, 2, 3), 3);
        x.street(0, 7, 0);
        Due.is("where no wall is any more", x.does(0, 0, 7), 9);
    }
}
