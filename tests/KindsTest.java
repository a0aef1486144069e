/** Terms: the KINDS, a SECOND of a HAT, and BEHIND. */
public final class KindsTest {
    private static final int UP = 0, RIGHT = 10, DOWN = 20, LEFT = 30, STILL = 40;
    private static final int HAT = 0, BOWLER = 1, CAP = 2, BALL = 3, LEAF = 4, WET = 5;
    private static final int CROWN = 0, RIM = 1, BRIM = 2;
    private static final String KINDS = "Terms, KINDS", SECOND = "Terms, a SECOND", BEHIND = "Terms, BEHIND";

    public static void main(String[] args) {
        asItLies();
        hatsGo();
        bowlersGo();
        capsGo();
        ballsGo();
        leavesGo();
        wetOnesGo();
        theBound();
        theTextsBound();
        lies();
        notGone();
        eddies();
        theKindAbove();
        nothing();
        heldOnes();
        squareBySquare();
        edges();
        puddlesOnTheWay();
        anEddyAsTheSecondBegins();
        behind();
        Due.end();
    }

    /** How far a hat goes behind one second, along a row of eight: seven squares at most are seen. */
    private static void goes(int kind, int more, int lie, int says, int due) {
        HatDownTheStreet x = new HatDownTheStreet();
        x.hat(10 * kind + more, 8, lie);
        Due.gusts(x, RIGHT + says);
        Due.is("kind " + kind + " with " + more + " lying " + lie + " by " + says, x.at(0, 1, 0), 8 + Math.min(7, due));
    }

    /** Each second anew: what lay on its crown may lie on its rim in the next one, and go farther. */
    private static void asItLies() {
        Due.of(KINDS, "KINDS: how far one GOES, the text saying so much, as it LIES;");
        int[][] due = {{HAT, 16, 17, 20, 23}, {BOWLER, 16, 17, 21, 23}, {CAP, 16, 17, 18, 19}, {BALL, 16, 20, 23, 23},
            {LEAF, 16, 19, 22, 23}, {WET, 16, 17, 20, 23}};
        for (int[] squares : due) {
            HatDownTheStreet x = new HatDownTheStreet();
            x.hat(10 * squares[0], 16, CROWN);
            Due.gusts(x, RIGHT + 3, RIGHT + 3, RIGHT + 3);
            for (int n = 0; n <= 3; n++) {
                Due.is("kind " + squares[0] + ", behind " + n, x.at(0, n, 0), squares[n + 1]);
            }
            x = Due.withLaw("goes strength*2;turns 1;worth 0;");
            x.hat(10 * squares[0], 16, CROWN);
            Due.gusts(x, RIGHT + 1);
            Due.is("kind " + squares[0] + ", the text saying twice as much", x.at(0, 1, 0),
                squares[0] == BALL ? 19 : squares[0] == LEAF ? 18 : squares[0] == CAP ? 17 : 16);
        }
    }

    private static void hatsGo() {
        Due.of(KINDS, "0 HAT: that, on its crown a third (cut) of it");
        int[] thirds = {0, 0, 0, 1, 1, 1, 2, 2, 2, 3};
        for (int says = 0; says <= 9; says++) {
            goes(HAT, 0, CROWN, says, thirds[says]);
            goes(HAT, 9, CROWN, says, thirds[says]);
            goes(HAT, 0, RIM, says, says);
            goes(HAT, 9, RIM, says, says);
            goes(HAT, 0, BRIM, says, says);
            goes(HAT, 9, BRIM, says, says);
        }
    }

    private static void bowlersGo() {
        Due.of(KINDS, "1 BOWLER (a HAT): on its rim GOES 1 more, and a fourth (cut) of MORE more.");
        int[] fourths = {0, 0, 0, 0, 1, 1, 1, 1, 2, 2};
        int[] thirds = {0, 0, 0, 1, 1, 1, 2, 2, 2, 3};
        for (int says = 0; says <= 9; says++) {
            for (int more = 0; more <= 9; more++) {
                goes(BOWLER, more, RIM, says, says + 1 + fourths[more]);
                goes(BOWLER, more, CROWN, says, thirds[says]);
                goes(BOWLER, more, BRIM, says, says);
            }
        }
    }

    private static void capsGo() {
        Due.of(KINDS, "2 CAP (a HAT): GOES as a HAT on its brim would, 1 at most");
        for (int lie = CROWN; lie <= BRIM; lie++) {
            for (int more = 0; more <= 9; more += 9) {
                goes(CAP, more, lie, 0, 0);
                for (int says = 1; says <= 9; says++) {
                    goes(CAP, more, lie, says, 1);
                }
            }
        }
    }

    private static void ballsGo() {
        Due.of(KINDS, "3 BALL (a BOWLER): GOES as a BOWLER on its rim would");
        int[] fourths = {0, 0, 0, 0, 1, 1, 1, 1, 2, 2};
        for (int lie = CROWN; lie <= BRIM; lie++) {
            for (int more = 0; more <= 9; more++) {
                for (int says = 0; says <= 9; says++) {
                    goes(BALL, more, lie, says, says + 1 + fourths[more]);
                }
            }
        }
    }

    private static void leavesGo() {
        Due.of(KINDS, "4 LEAF (a CAP): GOES as far as the text says and half (cut) of MORE farther, if the text says more than 1, else as a CAP.");
        int[] halves = {0, 0, 1, 1, 2, 2, 3, 3, 4, 4};
        for (int lie = CROWN; lie <= BRIM; lie++) {
            for (int more = 0; more <= 9; more++) {
                goes(LEAF, more, lie, 0, 0);
                goes(LEAF, more, lie, 1, 1);
                for (int says = 2; says <= 9; says++) {
                    goes(LEAF, more, lie, says, says + halves[more]);
                }
            }
        }
    }

    private static void wetOnesGo() {
        Due.of(KINDS, "5 WET (a HAT): GOES MORE less (0 at least)");
        int[] thirds = {0, 0, 0, 1, 1, 1, 2, 2, 2, 3};
        for (int more = 0; more <= 9; more++) {
            for (int says = 0; says <= 9; says++) {
                goes(WET, more, CROWN, says, Math.max(0, thirds[says] - more));
                goes(WET, more, RIM, says, Math.max(0, says - more));
                goes(WET, more, BRIM, says, Math.max(0, says - more));
            }
        }
    }

    private static void theBound() {
        Due.of(KINDS, "GOES 0 .. 12, else the bound.");
        // What would go below 0 stays where it is, and what would go 12 or 13 goes no farther than the street.
        goes(WET, 9, CROWN, 0, 0);
        goes(WET, 9, RIM, 8, 0);
        goes(LEAF, 9, BRIM, 9, 12);
        goes(BALL, 9, CROWN, 9, 12);
        goes(BOWLER, 8, RIM, 9, 12);
    }

    /** A text says 0 .. 9, and only then comes what a kind makes of it. */
    private static void theTextsBound() {
        Due.of("Terms, TEXTS", "(goes 0 .. 9, worth -99 .. 99, else the bound; turns: modulo 3, 0 .. 2 also of what is below 0)");
        int[][] above = {{10 * HAT, CROWN, 3}, {10 * BOWLER, CROWN, 3}, {10 * CAP, CROWN, 1}, {10 * WET + 1, CROWN, 2},
            {10 * WET + 5, RIM, 4}, {10 * WET + 9, BRIM, 0}, {10 * WET + 3, CROWN, 0}};
        HatDownTheStreet x = Due.withLaw("goes 15;turns 0;worth 0;");
        HatDownTheStreet y = Due.withLaw("goes -9;turns 0;worth 0;");
        x.hat(0, 31, 0);
        y.hat(0, 31, 0);
        for (int[] hat : above) {
            goesBy(x, hat[0], hat[1], hat[2]);
        }
        int[][] below = {{10 * HAT, RIM, 0}, {10 * BOWLER, RIM, 1}, {10 * BOWLER + 9, RIM, 3}, {10 * BOWLER, BRIM, 0}, {10 * CAP, RIM, 0},
            {10 * BALL, CROWN, 1}, {10 * BALL + 4, BRIM, 2}, {10 * LEAF + 9, RIM, 0}, {10 * WET, RIM, 0}};
        for (int[] hat : below) {
            goesBy(y, hat[0], hat[1], hat[2]);
        }
    }

    /** The street has one hat of its own; this one comes, goes in thought, and is had. */
    private static void goesBy(HatDownTheStreet x, int kindMore, int lie, int due) {
        if (x.count(1) == 0) {
            x.come(8, 0, 0);
            x.blow(0, 1, 0);
        }
        x.does(0, 0, 8);
        int h = x.hat(kindMore, 8, lie);
        Due.is("hat " + kindMore + " lying " + lie, x.at(h, 1, 0), 8 + due);
        Due.is("it is had", x.run(h, 0), 0);
    }

    private static void lies() {
        Due.of(KINDS, "that much more, modulo 3, if it has gone, else as it has LAIN");
        for (int kind : new int[] {HAT, BOWLER, BALL, WET}) {
            for (int lie = CROWN; lie <= BRIM; lie++) {
                for (int turns = 0; turns <= 5; turns++) {
                    HatDownTheStreet x = Due.withLaw("goes 3;turns " + turns + ";worth 0;");
                    x.hat(10 * kind, 8, lie);
                    Due.gusts(x, RIGHT);
                    Due.is("kind " + kind + " from " + lie + " by " + turns, x.at(0, 1, 1), (lie + turns) % 3);
                }
            }
        }
        Due.of(KINDS, "LIES as it has LAIN.");
        for (int lie = CROWN; lie <= BRIM; lie++) {
            for (int turns = 0; turns <= 3; turns++) {
                HatDownTheStreet x = Due.withLaw("goes 3;turns " + turns + ";worth 0;");
                x.hat(10 * CAP, 8, lie);
                Due.gusts(x, RIGHT);
                Due.is("a cap has gone", x.at(0, 1, 0), 9);
                Due.is("a cap from " + lie + " by " + turns, x.at(0, 1, 1), lie);
            }
        }
    }

    /** Not gone: as the text says 0, a third of it is 0, nothing is beside it, or it is wet through. */
    private static void notGone() {
        Due.of(KINDS, "how it LIES behind a SECOND, the text saying so much, as it has LAIN, having gone at all or not");
        for (int lie = CROWN; lie <= BRIM; lie++) {
            HatDownTheStreet x = new HatDownTheStreet();
            x.hat(10 * HAT, 8, lie);
            x.hat(10 * BALL, 15, lie);
            x.hat(10 * WET + 3, 8, lie);
            Due.gusts(x, RIGHT + 0);
            Due.is("the text says 0", x.at(0, 1, 1), lie);
            Due.is("none is beside it to the right", x.at(1, 1, 1), lie);
            Due.gusts(x, RIGHT + 3);
            Due.is("wet through", x.at(2, 1, 1), lie);
            Due.walls(x, 9);
            Due.is("a wall is beside it", x.at(0, 1, 1), lie);
            x.street(0, 9, 0);
            Due.is("it has gone", x.at(0, 1, 1), (lie + 1) % 3);
            Due.gusts(x, RIGHT + 2);
            Due.is("on its crown a third of 2 is 0", x.at(0, 1, 1), lie == CROWN ? CROWN : (lie + 1) % 3);
            Due.puddles(x, 9);
            Due.gusts(x, RIGHT + 9);
            Due.is("one square is enough", x.at(0, 1, 1), (lie + 1) % 3);
        }
    }

    /** Walls behind the squares beside 17 keep a hat that goes farther than one there. */
    private static int wayInEddy(int kind, int more, int way) {
        HatDownTheStreet x = new HatDownTheStreet();
        x.street(2, 17, 1);
        x.street(0, 1, 1);
        x.street(0, 19, 1);
        x.hat(10 * kind + more, 17, BRIM);
        x.blow(0, way, kind == WET ? more + 1 : 1);
        switch (x.at(0, 1, 0)) {
            case 9: return 0;
            case 18: return 1;
            case 25: return 2;
            case 16: return 3;
            default: return -1;
        }
    }

    private static void eddies() {
        Due.of(KINDS, "which WAY it goes in an EDDY, the GUST having a WAY.");
        HatDownTheStreet x = new HatDownTheStreet();
        Due.eddies(x, 17);
        x.hat(10 * BALL + 3, 17, BRIM);
        x.blow(0, 4, 9);
        Due.is("the gust has none", x.at(0, 1, 0), 17);
        for (int way = 0; way < 4; way++) {
            int next = new int[] {1, 2, 3, 0}[way];
            Due.of(KINDS, "the next WAY (0 behind 3).");
            Due.is("a hat by " + way, wayInEddy(HAT, 0, way), next);
            Due.is("a hat with 9 by " + way, wayInEddy(HAT, 9, way), next);
            for (int more = 0; more <= 9; more++) {
                Due.of(KINDS, "in an EDDY MORE WAYS farther than a BOWLER (modulo 4).");
                Due.is("a ball with " + more + " by " + way, wayInEddy(BALL, more, way), (next + more) % 4);
                if (more < 9) {
                    Due.of(KINDS, "in an EDDY the GUST's own WAY.");
                    Due.is("a wet one with " + more + " by " + way, wayInEddy(WET, more, way), way);
                }
            }
        }
    }

    private static void theKindAbove() {
        Due.of(KINDS, "(Whatever isn't told is as of the KIND above");
        for (int way = 0; way < 4; way++) {
            for (int more = 0; more <= 9; more += 3) {
                Due.is("a bowler in an eddy", wayInEddy(BOWLER, more, way), (way + 1) % 4);
                Due.is("a cap in an eddy", wayInEddy(CAP, more, way), (way + 1) % 4);
                Due.is("a leaf in an eddy", wayInEddy(LEAF, more, way), (way + 1) % 4);
            }
        }
        for (int lie = CROWN; lie <= BRIM; lie++) {
            for (int more = 0; more <= 9; more += 3) {
                HatDownTheStreet x = Due.withLaw("goes 5;turns 2;worth 0;");
                x.hat(10 * LEAF + more, 8, lie);
                Due.gusts(x, RIGHT);
                Due.is("a leaf lies as a cap, as it has lain", x.at(0, 1, 1), lie);
            }
        }
        // On its crown a bowler and a wet one are a hat.
        goes(BOWLER, 4, CROWN, 6, 2);
        goes(WET, 1, CROWN, 6, 1);
    }

    private static void nothing() {
        Due.of(SECOND, "A SECOND of a HAT, in thought: nothing, if it is in a PUDDLE, or the GUST's WAY is 4, or it is HELD.");
        for (int kind = HAT; kind <= WET; kind++) {
            for (int lie = CROWN; lie <= BRIM; lie++) {
                HatDownTheStreet x = Due.withLaw("goes 9;turns 1;worth 0;");
                x.hat(10 * kind, 8, lie);
                Due.gusts(x, STILL + 9, RIGHT + 9);
                Due.is("no way, its square", x.at(0, 1, 0), 8);
                Due.is("no way, how it lies", x.at(0, 1, 1), lie);
                Due.isNot("it would go", x.at(0, 2, 0), 8);
                Due.puddles(x, 8);
                for (int n = 0; n <= 24; n += 2) {
                    Due.is("in a puddle, its square", x.at(0, n, 0), 8);
                    Due.is("in a puddle, how it lies", x.at(0, n, 1), lie);
                }
                Due.eddies(x, 8);
                Due.is("in a puddle that is an eddy, too", x.at(0, 24, 0), 8);
                x.street(1, 8, 0);
                x.street(2, 8, 0);
                Due.eddies(x, 8);
                Due.gusts(x, STILL + 9, STILL);
                Due.is("no way in an eddy", x.at(0, 24, 0), 8);
                Due.is("nor turned there", x.at(0, 24, 1), lie);
            }
        }
    }

    private static void heldOnes() {
        Due.of(SECOND, "or it is HELD.");
        // Held, it doesn't turn over either: on its crown it would go 1.
        HatDownTheStreet x = Due.withLaw("goes 3;turns 1;worth 0;");
        x.hat(10 * HAT, 8, BRIM);
        Due.gusts(x, RIGHT, RIGHT);
        Due.is("on its crown", x.held(0, 2, 0), 12);
        Due.is("held first, on its brim still", x.held(0, 2, 1), 11);
        Due.is("held then", x.held(0, 2, 101), 11);
    }

    private static void squareBySquare() {
        Due.of(SECOND, "Else it GOES as far as told, SQUARE by SQUARE BESIDE, the GUST's WAY");
        int[] ends = {2, 23, 26, 16};
        for (int way = 0; way < 4; way++) {
            for (int says = 0; says <= 9; says++) {
                HatDownTheStreet x = new HatDownTheStreet();
                x.hat(10 * HAT, 18, RIM);
                x.blow(0, way, says);
                int step = new int[] {-8, 1, 8, -1}[way];
                int most = new int[] {2, 5, 1, 2}[way];
                Due.is("way " + way + " by " + says, x.at(0, 1, 0), 18 + step * Math.min(says, most));
            }
            HatDownTheStreet x = new HatDownTheStreet();
            x.hat(10 * HAT, 18, RIM);
            x.blow(0, way, 9);
            Due.is("as far as it goes, way " + way, x.at(0, 1, 0), ends[way]);
        }
        Due.of(SECOND, "till there is none BESIDE, or it is in a PUDDLE; then it LIES as told.");
        HatDownTheStreet x = new HatDownTheStreet();
        x.hat(10 * HAT, 0, RIM);
        Due.gusts(x, RIGHT + 9);
        Due.walls(x, 6);
        Due.is("ahead of a wall", x.at(0, 1, 0), 5);
        Due.is("it lies as having gone", x.at(0, 1, 1), BRIM);
        Due.walls(x, 2);
        Due.is("ahead of the first wall", x.at(0, 1, 0), 1);
        Due.walls(x, 1);
        Due.is("it stays", x.at(0, 1, 0), 0);
        Due.is("and lies as it has lain", x.at(0, 1, 1), RIM);
    }

    /** No way leads round the street's edge. */
    private static void edges() {
        Due.of("Terms, SQUARES", "BESIDE one UP (0) is that with y 1 less, to the RIGHT (1) x 1 more, DOWN (2) y 1 more, to the LEFT (3) x 1 less, if there is such one, and no WALL.");
        for (int way = 0; way < 4; way++) {
            HatDownTheStreet free = new HatDownTheStreet();
            free.hat(10 * CAP, 0, RIM);
            free.blow(0, way, 1);
            for (int c = 0; c < 32; c++) {
                int there = besideByHand(c, way);
                free.set(0, 0, c);
                Due.is("from " + c + " way " + way, free.at(0, 1, 0), there < 0 ? c : there);
                if (there >= 0) {
                    HatDownTheStreet walled = new HatDownTheStreet();
                    walled.street(0, there, 1);
                    walled.hat(10 * CAP, c, RIM);
                    walled.blow(0, way, 9);
                    Due.is("from " + c + " way " + way + " a wall", walled.at(0, 1, 0), c);
                }
            }
        }
    }

    private static int besideByHand(int c, int way) {
        int x = c % 8;
        int y = c / 8;
        switch (way) {
            case 0: return y == 0 ? -1 : c - 8;
            case 1: return x == 7 ? -1 : c + 1;
            case 2: return y == 3 ? -1 : c + 8;
            default: return x == 0 ? -1 : c - 1;
        }
    }

    private static void puddlesOnTheWay() {
        Due.of(SECOND, "till there is none BESIDE, or it is in a PUDDLE; then it LIES as told.");
        for (int puddle = 0; puddle <= 7; puddle++) {
            HatDownTheStreet x = new HatDownTheStreet();
            x.hat(10 * HAT, 0, BRIM);
            Due.gusts(x, RIGHT + 5, RIGHT + 9);
            Due.puddles(x, puddle);
            Due.is("a puddle in " + puddle, x.at(0, 1, 0), Math.min(puddle, 5));
            Due.is("it lies so", x.at(0, 1, 1), puddle == 0 ? BRIM : CROWN);
            Due.is("and then", x.at(0, 2, 0), puddle);
            Due.is("lies so", x.at(0, 2, 1), puddle == 0 ? BRIM : puddle <= 5 ? CROWN : RIM);
        }
        HatDownTheStreet x = new HatDownTheStreet();
        x.hat(10 * HAT, 0, BRIM);
        Due.gusts(x, RIGHT + 9);
        Due.puddles(x, 3);
        Due.walls(x, 3);
        Due.is("a puddle in a wall is not beside", x.at(0, 1, 0), 2);
    }

    private static void anEddyAsTheSecondBegins() {
        Due.of(SECOND, "(but in an EDDY, as the SECOND begins, as told)");
        HatDownTheStreet x = new HatDownTheStreet();
        Due.eddies(x, 9, 12, 20);
        x.hat(10 * HAT, 8, RIM);
        Due.gusts(x, RIGHT + 4, RIGHT + 1, RIGHT + 3);
        Due.is("an eddy on the way turns nothing", x.at(0, 1, 0), 12);
        Due.is("but where it is then: down", x.at(0, 2, 0), 20);
        Due.is("and again, on its crown by one", x.at(0, 3, 0), 28);
        x = new HatDownTheStreet();
        Due.eddies(x, 8);
        x.hat(10 * HAT, 8, RIM);
        Due.gusts(x, RIGHT + 9, RIGHT + 3);
        Due.is("all the way down", x.at(0, 1, 0), 24);
        Due.is("and to the right", x.at(0, 2, 0), 27);
    }

    private static void behind() {
        Due.of(BEHIND, "BEHIND n (0 .. 24): SECONDS 0 .. n less 1.");
        for (int second = 0; second < 24; second++) {
            HatDownTheStreet x = new HatDownTheStreet();
            x.hat(10 * HAT, 8, RIM);
            x.blow(second, 1, 2);
            for (int n = 0; n <= 24; n++) {
                Due.is("by second " + second + ", behind " + n, x.at(0, n, 0), n <= second ? 8 : 10);
                Due.is("it lies behind " + n, x.at(0, n, 1), n <= second ? RIM : BRIM);
            }
        }
        for (int second = 0; second < 24; second++) {
            HatDownTheStreet x = new HatDownTheStreet();
            x.hat(10 * HAT, 8, RIM);
            Due.eddies(x, 8);
            x.blow(second, 1, 1);
            Due.is("in an eddy in second " + second, x.at(0, 24, 0), 16);
            Due.puddles(x, 8);
            Due.is("in a puddle in second " + second, x.at(0, 24, 0), 8);
        }
        HatDownTheStreet x = new HatDownTheStreet();
        x.hat(10 * BALL, 0, RIM);
        Due.gusts(x, RIGHT, DOWN, LEFT, UP);
        int[] due = {0, 1, 9, 8, 0, 0};
        for (int n = 0; n < due.length; n++) {
            Due.is("a ball by second and second, behind " + n, x.at(0, n, 0), due[n]);
        }
    }
}
