/** Promises 23 to 31: catching, what it is worth. */
public final class CatchingTest {
    private static final int RIGHT = 10, DOWN = 20, LEFT = 30, STILL = 40;
    private static final int STATE = HatDownTheStreet.STATE;
    private static final int CAP = 20;
    private static final int[] NO_SUCH = {-1, 1, 4, Integer.MIN_VALUE, Integer.MAX_VALUE};

    public static void main(String[] args) {
        caught();
        who();
        whoEdges();
        stand();
        standEdges();
        longestWait();
        waitEdges();
        pace();
        paceEdges();
        order();
        orderByMoving();
        orderRefused();
        gain();
        gainNames();
        whom();
        whomEdges();
        run();
        runEdges();
        runRefused();
        Due.end();
    }

    private static HatDownTheStreet still(int square, int catcher, int pace, int reach) {
        HatDownTheStreet x = new HatDownTheStreet();
        x.hat(0, square, 1);
        x.come(catcher, pace, reach);
        return x;
    }

    /** Refusals of a call that asks of a hat and a catcher, of which there is one each. */
    private static void pairs(String what, int due, int... answers) {
        for (int i = 0; i < answers.length; i++) {
            Due.is(what + ", no such pair " + i, answers[i], due);
        }
    }

    private static void caught() {
        Due.of("Promise 23", "HAD: n; -1: none.");
        HatDownTheStreet x = still(31, 0, 1, 0);
        Due.is("10 squares far", x.caught(0, 0), 10);
        x.does(0, 1, 4);
        Due.is("by 4", x.caught(0, 0), 3);
        x.does(0, 2, 2);
        Due.is("by 4 and 2", x.caught(0, 0), 2);
        x.does(0, 1, 0);
        Due.is("by 2 alone", x.caught(0, 0), -1);
        x.does(0, 0, 29);
        Due.is("2 are in reach", x.caught(0, 0), 0);
        x.does(0, 0, 28);
        Due.is("3 are not", x.caught(0, 0), -1);
        x.does(0, 2, 3);
        Due.is("by 3 they are", x.caught(0, 0), 0);
        x = still(8, 11, 1, 0);
        Due.gusts(x, RIGHT + 2);
        Due.is("it comes", x.caught(0, 0), 1);
        x = still(8, 15, 0, 0);
        Due.gusts(x, RIGHT + 7, LEFT + 1);
        Due.is("it comes by", x.caught(0, 0), 1);
        x.blow(0, 4, 0);
        x.blow(1, 4, 0);
        x.blow(23, 1, 7);
        Due.is("behind 24", x.caught(0, 0), 24);
        x.blow(23, 1, 6);
        Due.is("none", x.caught(0, 0), -1);
        x.come(8, 0, 0);
        Due.is("the other one at once", x.caught(0, 1), 0);
        x.hat(0, 15, 0);
        Due.is("the other hat", x.caught(1, 0), 0);
        Due.of("Promise 23", "-5: no such HAT, CATCHER.");
        x = still(0, 0, 0, 0);
        for (int i : NO_SUCH) {
            pairs("caught", -5, x.caught(i, 0), x.caught(0, i), x.caught(i, i));
        }
    }

    private static void who() {
        Due.of("Promise 24", "The CATCHER by whom it is HAD first, of like ones the first (what 0; -1: nobody), n (1; -1).");
        HatDownTheStreet x = new HatDownTheStreet();
        x.hat(0, 9, 1);
        Due.is("nobody", x.who(0, 0), -1);
        Due.is("nor n", x.who(0, 1), -1);
        x.come(31, 0, 0);
        Due.is("nobody who has it", x.who(0, 0), -1);
        Due.is("nor n of it", x.who(0, 1), -1);
        x.come(31, 1, 0);
        Due.is("the only one", x.who(0, 0), 1);
        Due.is("n", x.who(0, 1), 8);
        x.come(10, 1, 0);
        x.come(8, 1, 0);
        Due.is("of like ones the first", x.who(0, 0), 2);
        Due.is("n of both", x.who(0, 1), 1);
        x.does(3, 2, 1);
        Due.is("the last", x.who(0, 0), 3);
        Due.is("at once", x.who(0, 1), 0);
        x.does(2, 0, 9);
        Due.is("of two at once the first", x.who(0, 0), 2);
        x.does(0, 0, 9);
        Due.is("the first of all", x.who(0, 0), 0);
        Due.is("n 0", x.who(0, 1), 0);
        x.hat(0, 31, 1);
        Due.is("another hat", x.who(1, 0), 1);
    }

    private static void whoEdges() {
        Due.of("Promise 24", "The CATCHER by whom it is HAD first, of like ones the first (what 0; -1: nobody), n (1; -1).");
        HatDownTheStreet x = new HatDownTheStreet();
        x.hat(CAP, 9, 1);
        x.blow(23, 1, 1);
        for (int p = 0; p < 4; p++) {
            x.come(p == 2 ? 10 : 31, 0, 0);
        }
        Due.is("behind 24 by one in the midst", x.who(0, 0), 2);
        Due.is("24", x.who(0, 1), 24);
        x.does(0, 0, 10);
        x.does(3, 0, 10);
        Due.is("of three the first", x.who(0, 0), 0);
        Due.of("Promise 24", "-5: no such HAT; -7: what.");
        Due.is("no hat, nobody", new HatDownTheStreet().who(0, 0), -5);
        Due.is("no hat, ahead of what", new HatDownTheStreet().who(0, 2), -5);
        for (int what : new int[] {-1, 2, Integer.MIN_VALUE, Integer.MAX_VALUE}) {
            Due.is("what " + what, x.who(0, what), -7);
            for (int h : NO_SUCH) {
                Due.is("hat " + h, x.who(h, 1), -5);
                Due.is("hat ahead of what", x.who(h, what), -5);
            }
        }
    }

    private static void stands(String what, HatDownTheStreet x, int square, int n) {
        Due.is(what, x.stand(0, 0, 0), square);
        Due.is(what + ", n", x.stand(0, 0, 1), n);
    }

    private static void stand() {
        Due.of("Promise 25", "The SQUARE without WALL, not the HAT's own now, from which one would have HAD it first, of like ones the first (what 0; -1: none), n (1; -1).");
        HatDownTheStreet x = still(9, 31, 0, 0);
        stands("none but its own", x, -1, -1);
        Due.gusts(x, STILL, RIGHT + 3, LEFT + 3);
        stands("where it comes, behind 2", x, 12, 2);
        x.does(0, 2, 1);
        stands("beside it, at once, the first of four", x, 1, 0);
        Due.walls(x, 1, 8);
        stands("of those without wall", x, 10, 0);
        x.does(0, 1, 4);
        x.does(0, 2, 0);
        stands("by pace the first near one, behind 1", x, 2, 1);
        x.come(2, 0, 0);
        x.hat(0, 2, 0);
        stands("also where a hat and a catcher are", x, 2, 1);
        x.does(0, 1, 0);
        x.set(0, 0, 7);
        x.blow(0, 3, 9);
        x.blow(1, 4, 0);
        stands("up to a wall", x, 2, 1);
        x.street(0, 1, 0);
        stands("square 0", x, 0, 1);
        x.blow(0, 2, 9);
        stands("square 31", x, 31, 1);
        Due.is("nothing changes", x.does(0, 0, 31), 31);
    }

    private static void standEdges() {
        Due.of("Promise 25", "The SQUARE without WALL, not the HAT's own now, from which one would have HAD it first, of like ones the first (what 0; -1: none), n (1; -1).");
        HatDownTheStreet x = still(30, 0, 0, 0);
        x.blow(23, 1, 1);
        stands("behind 24", x, 31, 24);
        x.does(0, 0, 30);
        stands("one is in its own, that doesn't count", x, 31, 24);
        x.set(0, 0, 31);
        x.does(0, 2, 3);
        stands("within reach, the first", x, 7, 0);
        Due.walls(x, 23, 28);
        stands("reach goes round walls", x, 14, 0);
        x.does(0, 0, 29);
        Due.walls(x, 30);
        x.does(0, 1, 4);
        stands("walls all around", x, -1, -1);
        x.does(0, 0, 31);
        stands("but in its own, where one is", x, -1, -1);
        x = still(0, 5, 0, 0);
        x.blow(0, 1, 1);
        x.blow(1, 3, 1);
        stands("its own now counts by no second", x, 1, 1);
        Due.of("Promise 25", "-5: no such HAT, CATCHER; -7: what.");
        for (int i : NO_SUCH) {
            pairs("stand", -5, x.stand(i, 0, 0), x.stand(0, i, 0), x.stand(i, 0, 2), x.stand(0, i, -1));
        }
        for (int what : new int[] {-1, 2, Integer.MIN_VALUE, Integer.MAX_VALUE}) {
            Due.is("what " + what, x.stand(0, 0, what), -7);
        }
    }

    private static void longestWait() {
        Due.of("Promise 26", "The greatest m such that, setting out BEHIND each of 0 .. m, one would have HAD it as soon as now (no more than that n); -1: one doesn't have it.");
        HatDownTheStreet x = still(9, 12, 1, 0);
        Due.is("none to lose", x.wait(0, 0), 0);
        x.does(0, 0, 31);
        x.does(0, 1, 0);
        Due.is("one doesn't have it", x.wait(0, 0), -1);
        x.does(0, 0, 9);
        Due.is("at once", x.wait(0, 0), 0);
        x = still(8, 15, 1, 0);
        // It comes to 14 behind 5: one step then, so that one may set out behind 4.
        Due.gusts(x, STILL, STILL, STILL, STILL, RIGHT + 6);
        Due.is("caught", x.caught(0, 0), 5);
        Due.is("by one square", x.wait(0, 0), 4);
        x.does(0, 0, 31);
        Due.is("caught behind 5", x.caught(0, 0), 5);
        Due.is("by three squares", x.wait(0, 0), 2);
        x.does(0, 1, 2);
        Due.is("by two a second", x.wait(0, 0), 3);
        x.does(0, 1, 1);
        x.does(0, 2, 3);
        Due.is("in reach up to that n", x.wait(0, 0), 5);
        x.does(0, 2, 2);
        Due.is("not all in reach", x.wait(0, 0), 4);
    }

    private static void waitEdges() {
        Due.of("Promise 26", "The greatest m such that, setting out BEHIND each of 0 .. m, one would have HAD it as soon as now (no more than that n); -1: one doesn't have it.");
        HatDownTheStreet x = new HatDownTheStreet();
        x.hat(CAP, 9, 0);
        x.come(10, 0, 0);
        x.blow(23, 1, 1);
        Due.is("all day", x.wait(0, 0), 24);
        x.does(0, 0, 18);
        x.does(0, 1, 1);
        // Beside 10, which it comes to behind 24; to 9 it is two squares.
        Due.is("two squares far", x.caught(0, 0), 2);
        Due.is("none to lose", x.wait(0, 0), 0);
        x.does(0, 1, 0);
        x.does(0, 2, 1);
        Due.is("behind 24 in reach", x.wait(0, 0), 24);
        x.does(0, 0, 1);
        Due.is("it is in reach, but only now", x.wait(0, 0), 0);
        // It is within reach up to behind 3, but no longer: as soon as now is behind 0.
        x.does(0, 0, 9);
        x.blow(3, 2, 1);
        Due.is("as soon as now, not as soon as possible", x.wait(0, 0), 0);
        Due.of("Promise 26", "-5: no such HAT, CATCHER.");
        for (int i : NO_SUCH) {
            pairs("wait", -5, x.wait(i, 0), x.wait(0, i), x.wait(i, i));
        }
    }

    private static void pace() {
        Due.of("Promise 27", "The least PACE (0 .. 4) with which one would have HAD it, n being below a second (1 .. 24; 0: any n); -1: there is none.");
        HatDownTheStreet x = still(31, 0, 0, 0);
        int[] due = {1, -1, -1, -1, 4, 3, 2, 2, 2, 2, 2, 1, 1};
        for (int second = 0; second < due.length; second++) {
            Due.is("10 squares, below " + second, x.pace(0, 0, second), due[second]);
        }
        Due.is("below 24", x.pace(0, 0, 24), 1);
        x.does(0, 2, 2);
        Due.is("its reach counts", x.pace(0, 0, 3), 4);
        Due.is("below 2", x.pace(0, 0, 2), -1);
        x.does(0, 0, 30);
        for (int second = 0; second <= 24; second++) {
            Due.is("at once, below " + second, x.pace(0, 0, second), 0);
        }
        Due.is("its own stays", x.does(0, 1, 0), 0);
        x.does(0, 1, 4);
        x.does(0, 2, 0);
        Due.is("whatever its own is", x.pace(0, 0, 0), 1);
        Due.is("it stays", x.does(0, 1, 2), 4);
        x.does(0, 0, 0);
        Due.walls(x, 30, 23);
        Due.is("there is none", x.pace(0, 0, 0), -1);
    }

    private static void paceEdges() {
        Due.of("Promise 27", "n being below a second (1 .. 24; 0: any n); -1: there is none.");
        HatDownTheStreet x = new HatDownTheStreet();
        x.hat(CAP, 9, 0);
        x.come(10, 4, 0);
        x.blow(23, 1, 1);
        Due.is("any n, 24, too", x.pace(0, 0, 0), 0);
        Due.is("24 is not below 24", x.pace(0, 0, 24), 1);
        Due.is("1 is below 2", x.pace(0, 0, 2), 1);
        Due.is("1 is not below 1", x.pace(0, 0, 1), -1);
        x.blow(22, 1, 1);
        x.blow(23, 4, 1);
        Due.is("23 is below 24", x.pace(0, 0, 24), 0);
        Due.is("23 is not below 23", x.pace(0, 0, 23), 1);
        Due.of("Promise 27", "-5: no such HAT, CATCHER; -7: second.");
        for (int second : new int[] {-1, 25, Integer.MIN_VALUE, Integer.MAX_VALUE}) {
            Due.is("second " + second, x.pace(0, 0, second), -7);
            for (int i : NO_SUCH) {
                pairs("pace", -5, x.pace(i, 0, 0), x.pace(0, i, 0), x.pace(i, 0, second), x.pace(0, i, second));
            }
        }
    }

    private static void orders(String what, HatDownTheStreet x, int digits, int n) {
        Due.is(what, x.order(0, 0), digits);
        Due.is(what + ", n", x.order(0, 1), n);
    }

    private static void order() {
        Due.of("Promise 28", "the order by which n of the last is least, of like ones the first, as digits, 1 more than each, that of the first the highest (what 0; -1: there is none; 0: there are no HATS), n (1; -1; 0).");
        HatDownTheStreet x = new HatDownTheStreet();
        x.come(8, 1, 0);
        orders("no hats", x, 0, 0);
        x.hat(0, 11, 1);
        orders("one", x, 1, 3);
        x.hat(0, 9, 1);
        orders("the near one first", x, 21, 3);
        x.hat(0, 8, 1);
        orders("three", x, 321, 3);
        x.hat(0, 9, 1);
        orders("of like ones the first", x, 3241, 3);
        x.does(0, 1, 0);
        x.does(0, 0, 11);
        orders("there is none, though one is had", x, -1, -1);
        x.does(0, 2, 3);
        orders("by reach one is in its square", x, 1234, 0);
        x = new HatDownTheStreet();
        x.come(10, 1, 0);
        x.hat(0, 15, 1);
        x.hat(0, 8, 1);
        orders("the left one first", x, 21, 9);
        x.does(0, 0, 12);
        orders("the right one first", x, 12, 10);
        x = new HatDownTheStreet();
        x.come(0, 1, 0);
        for (int c : new int[] {0, 7, 24, 31}) {
            x.hat(0, c, 1);
        }
        orders("four corners", x, 1342, 13);
        x.does(0, 0, 31);
        orders("from the last", x, 4213, 13);
        x.does(0, 1, 4);
        // 31 at once, 7 by 1, 0 by 2, 24 by 1.
        orders("by 4 a second", x, 4213, 4);
        x.does(0, 2, 3);
        // By reach 3 each corner reaches the one above or below it.
        orders("by 4 and 3", x, 2431, 1);
        Due.walls(x, 1, 8);
        orders("one corner is walled in", x, -1, -1);
    }

    private static void orderByMoving() {
        Due.of("Promise 28", "All HATS HAD one behind the other by one, who sets out for each as, and from where, one had the one ahead (its SQUARE then)");
        // One who must wait for a hat that comes, and then go on from where it was had.
        HatDownTheStreet x = new HatDownTheStreet();
        x.come(0, 1, 2);
        x.hat(0, 7, 1);
        x.hat(CAP, 31, 1);
        Due.gusts(x, STILL, LEFT + 7);
        // Had behind 2 in square 0; from there to 30, which the cap came to, less the reach.
        orders("first what comes", x, 12, 9);
        // The near one stays in its puddle, the far one flees to the edge.
        x = new HatDownTheStreet();
        x.come(8, 2, 0);
        Due.puddles(x, 24);
        x.hat(CAP, 24, 1);
        x.hat(CAP, 10, 1);
        Due.everyGust(x, 1, 1);
        // In 12 behind 2, then 6 squares back; the other way it would be behind 6.
        orders("first what flees", x, 21, 5);
        Due.puddles(x, 16);
        x.set(0, 0, 16);
        orders("either way: the first", x, 12, 5);
        // Where it goes once it is had does not matter, nor where it was.
        x = new HatDownTheStreet();
        x.come(9, 0, 0);
        x.hat(CAP, 8, 1);
        x.hat(CAP, 10, 1);
        Due.gusts(x, RIGHT + 1, LEFT + 1, LEFT + 1);
        orders("both in that square, one behind the other", x, 12, 3);
        Due.walls(x, 11);
        orders("sooner by a wall", x, 12, 2);
        x.blow(1, 4, 1);
        x.blow(2, 4, 1);
        orders("the other never comes", x, -1, -1);
    }

    private static void orderRefused() {
        Due.of("Promise 28", "-5: no such CATCHER; -7: what.");
        HatDownTheStreet x = new HatDownTheStreet();
        Due.is("no catcher", x.order(0, 0), -5);
        Due.is("no catcher ahead of what", x.order(0, 2), -5);
        x.come(8, 1, 0);
        for (int hats = 0; hats <= 1; hats++) {
            for (int what : new int[] {-1, 2, Integer.MIN_VALUE, Integer.MAX_VALUE}) {
                Due.is("what " + what, x.order(0, what), -7);
                for (int p : NO_SUCH) {
                    Due.is("catcher " + p, x.order(p, 1), -5);
                    Due.is("catcher ahead of what", x.order(p, what), -5);
                }
            }
            x.hat(0, 8, 1);
        }
    }

    private static void gain() {
        Due.of("Promise 29", "What worth says, as it is HAD; -100: it is not.");
        HatDownTheStreet x = still(11, 8, 1, 0);
        Due.is("30 less 3", x.gain(0, 0), 27);
        x.does(0, 0, 11);
        Due.is("at once", x.gain(0, 0), 30);
        x.does(0, 1, 0);
        x.does(0, 0, 8);
        Due.is("it is not", x.gain(0, 0), -100);
        x.does(0, 0, 12);
        x.blow(23, 1, 1);
        Due.is("behind 24", x.gain(0, 0), 6);
        x = Due.withLaw("goes 0;turns 0;worth -1000;");
        x.hat(0, 0, 0);
        x.come(0, 0, 0);
        Due.is("-99 at least", x.gain(0, 0), -99);
        Due.text(x, "goes 0;turns 0;worth 1000;");
        x.force(2);
        Due.is("99 at most", x.gain(0, 0), 99);
        Due.of("Promise 29", "-1000: no such HAT, CATCHER.");
        for (int i : NO_SUCH) {
            pairs("gain", -1000, x.gain(i, 0), x.gain(0, i), x.gain(i, i));
        }
    }

    /** A bowler with 7 on its rim goes 3 and 1 and 1: behind 1 it is in 13 and lies on its brim. */
    private static void gainNames() {
        Due.of("Promise 29", "What worth says, as it is HAD; -100: it is not.");
        HatDownTheStreet x = Due.withLaw("goes 3;turns 1;worth cell+(lie-2)*100+(strength-3)*100+(second-1)*100+(kind-1)*100+(more-7)*100;");
        x.hat(17, 8, 1);
        x.come(15, 3, 0);
        Due.gusts(x, 19);
        Due.is("all names at once", x.gain(0, 0), 13);
        x.hat(17, 8, 1);
        x.come(8, 0, 0);
        Due.is("at once they are others", x.gain(0, 1), -99);
        x = Due.withLaw("goes 0;turns 0;worth 10*strength+lie;");
        x.come(0, 0, 0);
        for (int lie = 0; lie <= 2; lie++) {
            x.hat(0, 0, lie);
            for (int pace = 0; pace <= 4; pace++) {
                x.does(0, 1, pace);
                Due.is("by pace " + pace + " lying " + lie, x.gain(lie, 0), 10 * pace + lie);
            }
        }
    }

    private static void whoms(String what, HatDownTheStreet x, int hat, int worth) {
        Due.is(what, x.whom(0, 0), hat);
        Due.is(what + ", that", x.whom(0, 1), worth);
    }

    private static void whom() {
        Due.of("Promise 30", "The HAT of which that is most, if above 0, of like ones the first (what 0; -1: none), that (1; 0).");
        HatDownTheStreet x = new HatDownTheStreet();
        x.come(8, 1, 0);
        whoms("no hats", x, -1, 0);
        x.hat(0, 12, 1);
        whoms("one", x, 0, 26);
        x.hat(0, 10, 1);
        whoms("the near one", x, 1, 28);
        x.hat(0, 16, 1);
        x.hat(0, 0, 1);
        whoms("of like ones the first", x, 2, 29);
        x.set(3, 0, 8);
        whoms("the last", x, 3, 30);
        x.set(0, 0, 8);
        whoms("the first of all", x, 0, 30);
        x.does(0, 1, 0);
        x.does(0, 0, 31);
        whoms("none is had", x, -1, 0);
    }

    private static void whomEdges() {
        Due.of("Promise 30", "The HAT of which that is most, if above 0, of like ones the first (what 0; -1: none), that (1; 0).");
        HatDownTheStreet x = Due.withLaw("goes 0;turns 0;worth more - 1;");
        x.come(8, 0, 0);
        x.hat(0, 8, 0);
        whoms("not of -1", x, -1, 0);
        x.hat(1, 8, 0);
        whoms("not of 0", x, -1, 0);
        x.hat(2, 8, 0);
        whoms("above 0", x, 2, 1);
        x.hat(2, 8, 0);
        whoms("of like ones the first", x, 2, 1);
        x.set(2, 0, 9);
        whoms("the last", x, 3, 1);
        x.set(3, 0, 9);
        whoms("those worth more are not had", x, -1, 0);
        Due.text(x, "goes 0;turns 0;worth 99 - 98 * (more = 2);");
        x.force(2);
        whoms("99", x, 0, 99);
        Due.text(x, "goes 0;turns 0;worth 100 + more;");
        x.force(3);
        x.set(2, 0, 8);
        // All are worth 99, as that is the most.
        whoms("of like ones by the bound the first", x, 0, 99);
        Due.of("Promise 30", "-5: no such CATCHER; -7: what.");
        for (int what : new int[] {-1, 2, Integer.MIN_VALUE, Integer.MAX_VALUE}) {
            Due.is("what " + what, x.whom(0, what), -7);
            for (int p : NO_SUCH) {
                Due.is("catcher " + p, x.whom(p, 0), -5);
                Due.is("catcher ahead of what", x.whom(p, what), -5);
            }
        }
    }

    private static void run() {
        Due.of("Promise 31", "A HAT is truly HAD: all HATS are where, and LIE as, they are BEHIND n; the CATCHER is in its SQUARE; it is no HAT any more (those of greater numbers have 1 less): n.");
        HatDownTheStreet x = new HatDownTheStreet();
        x.hat(20, 8, 1);
        x.hat(37, 16, 2);
        x.hat(1, 24, 1);
        x.hat(53, 30, 0);
        x.come(0, 0, 0);
        x.come(20, 1, 0);
        x.come(31, 2, 3);
        Due.gusts(x, RIGHT + 1, RIGHT + 1, DOWN + 9);
        // By 1 and 1 and 1 more it is in 19 behind 1.
        Due.is("behind 1", x.run(1, 1), 1);
        Due.is("three", x.count(0), 3);
        int[][] due = {{9, 1, 2, 0}, {25, 2, 0, 1}, {30, 0, 5, 3}};
        for (int h = 0; h < 3; h++) {
            for (int what = 0; what < 4; what++) {
                Due.is("told(" + h + ", " + what + ")", x.told(h, what), due[h][what]);
            }
        }
        Due.is("no more of that number", x.told(3, 0), -5);
        Due.is("the catcher is there", x.does(1, 0, 19), 19);
        Due.is("as fast as it was", x.does(1, 1, 1), 1);
        Due.is("the one ahead of it is not", x.does(0, 0, 0), 0);
        Due.is("nor that behind it", x.does(2, 0, 31), 31);
        Due.is("three catchers", x.count(1), 3);
        Due.is("gusts stay", x.wind(0), RIGHT + 1);
        Due.is("all of them", x.wind(2), DOWN + 9);
        Due.is("of the first second again", x.at(0, 1, 0), 10);
        Due.is("the last is had at once", x.run(2, 2), 0);
        Due.is("its catcher", x.does(2, 0, 30), 30);
        Due.is("the others stay", x.told(0, 0), 9);
        Due.is("and lie so", x.told(1, 1), 2);
        // It goes to 11, 5 squares far; before, in 10, it is 6 squares far.
        Due.is("the first is had", x.run(0, 2), 2);
        Due.is("one", x.count(0), 1);
        Due.is("room for it", x.hat(0, 0, 0), 1);
    }

    private static void runEdges() {
        Due.of("Promise 31", "A HAT is truly HAD: all HATS are where, and LIE as, they are BEHIND n; the CATCHER is in its SQUARE; it is no HAT any more (those of greater numbers have 1 less): n.");
        HatDownTheStreet x = new HatDownTheStreet();
        x.hat(CAP, 9, 0);
        x.hat(0, 16, 1);
        x.come(10, 0, 0);
        x.come(12, 0, 3);
        Due.gusts(x, STILL, DOWN + 1);
        x.blow(0, 2, 1);
        x.blow(1, 0, 1);
        x.blow(23, 1, 1);
        Due.is("behind 24", x.run(0, 0), 24);
        // Down by 1, on its brim up by 1, on its crown not to the right by a third of 1.
        Due.is("the other one all day", x.told(0, 0), 16);
        Due.is("it lies", x.told(0, 1), 0);
        Due.is("the catcher is there", x.does(0, 0, 10), 10);
        x.set(0, 0, 9);
        Due.is("in reach at once", x.run(0, 1), 0);
        Due.is("its catcher comes to it", x.does(1, 0, 0), 9);
        Due.is("no hats", x.count(0), 0);
        // Two hats in one square: only one of them is had.
        x.hat(15, 0, 1);
        x.hat(36, 0, 2);
        Due.is("one", x.run(0, 1), 0);
        Due.is("the other one stays", x.told(0, 2), 3);
        Due.is("with its more", x.told(0, 3), 6);
        Due.is("in its square", x.told(0, 0), 0);
        Due.is("as it lies", x.told(0, 1), 2);
    }

    private static void runRefused() {
        Due.of("Promise 31", "-5: no such HAT, CATCHER; STATE: it isn't HAD.");
        HatDownTheStreet x = new HatDownTheStreet();
        Due.is("neither", x.run(0, 0), -5);
        x.hat(CAP, 8, 1);
        Due.is("no catcher", x.run(0, 0), -5);
        x.come(31, 0, 0);
        x.blow(0, 1, 1);
        for (int i : NO_SUCH) {
            pairs("run", -5, x.run(i, 0), x.run(0, i), x.run(i, i));
        }
        Due.is("it isn't had", x.run(0, 0), STATE);
        Due.is("one hat still", x.count(0), 1);
        Due.is("nothing passed", x.told(0, 0), 8);
        Due.is("the catcher stays", x.does(0, 0, 15), 31);
        Due.is("it isn't had still", x.run(0, 0), STATE);
        Due.everyGust(x, 1, 1);
        Due.is("now it is", x.run(0, 0), 7);
        Due.is("it is no hat any more", x.run(0, 0), -5);
    }
}
