/** Promises 23 to 31: catching, what it is worth. */
public final class CatchingTest {
    private static final int RIGHT = 10, DOWN = 20, LEFT = 30;

    public static void main(String[] args) {
        caught();
        who();
        stand();
        longestWait();
        pace();
        order();
        gain();
        whom();
        run();
        Due.end();
    }

    private static HatDownTheStreet still(int square, int catcher, int pace, int reach) {
        HatDownTheStreet x = new HatDownTheStreet();
        x.hat(0, square, 1);
        x.come(catcher, pace, reach);
        return x;
    }

    private static void caught() {
        HatDownTheStreet x = still(31, 0, 1, 0);
        Due.is("23: 10 squares far", x.caught(0, 0), 10);
        x.does(0, 1, 4);
        Due.is("23: by 4", x.caught(0, 0), 3);
        x.does(0, 2, 2);
        Due.is("23: by 4 and 2", x.caught(0, 0), 2);
        x.does(0, 1, 0);
        Due.is("23: by 2 alone", x.caught(0, 0), -1);
        x.does(0, 0, 29);
        Due.is("23: 2 are in reach", x.caught(0, 0), 0);
        x.does(0, 1, 1);
        x.does(0, 2, 0);
        Due.walls(x, 30);
        Due.is("23: round a wall", x.caught(0, 0), 4);
        Due.walls(x, 23);
        Due.is("23: not through walls", x.caught(0, 0), -1);
        x.does(0, 2, 3);
        Due.is("23: nor does one reach through them", x.caught(0, 0), -1);
        x = still(8, 11, 1, 0);
        Due.gusts(x, RIGHT + 2);
        Due.is("23: it comes", x.caught(0, 0), 1);
        x = still(8, 15, 0, 0);
        Due.gusts(x, RIGHT + 7, LEFT + 1);
        Due.is("23: it comes by", x.caught(0, 0), 1);
        x.blow(0, 4, 0);
        x.blow(23, 1, 7);
        Due.is("23: behind 24", x.caught(0, 0), 24);
        Due.is("23: no such hat", x.caught(1, 0), -5);
        Due.is("23: nor below", x.caught(-1, 0), -5);
        Due.is("23: no such catcher", x.caught(0, 1), -5);
        Due.is("23: nor below", x.caught(0, -1), -5);
    }

    private static void who() {
        HatDownTheStreet x = new HatDownTheStreet();
        Due.is("24: no hat", x.who(0, 0), -5);
        Due.is("24: hat ahead of what", x.who(0, 2), -5);
        x.hat(0, 9, 1);
        Due.is("24: nobody", x.who(0, 0), -1);
        Due.is("24: nor n", x.who(0, 1), -1);
        x.come(31, 0, 0);
        Due.is("24: nobody who has it", x.who(0, 0), -1);
        x.come(31, 1, 0);
        Due.is("24: the only one", x.who(0, 0), 1);
        Due.is("24: n", x.who(0, 1), 8);
        x.come(10, 1, 0);
        x.come(8, 1, 0);
        Due.is("24: of like ones the first", x.who(0, 0), 2);
        Due.is("24: n of both", x.who(0, 1), 1);
        x.does(3, 2, 1);
        Due.is("24: the last", x.who(0, 0), 3);
        Due.is("24: at once", x.who(0, 1), 0);
        x.does(0, 0, 9);
        Due.is("24: the first of all", x.who(0, 0), 0);
        Due.is("24: what below", x.who(0, -1), -7);
        Due.is("24: what above", x.who(0, 2), -7);
        Due.is("24: hat below", x.who(-1, 0), -5);
    }

    private static void stand() {
        HatDownTheStreet x = still(9, 31, 0, 0);
        Due.is("25: none but its own", x.stand(0, 0, 0), -1);
        Due.is("25: nor n", x.stand(0, 0, 1), -1);
        Due.gusts(x, 40, RIGHT + 3, LEFT + 3);
        Due.is("25: where it comes", x.stand(0, 0, 0), 12);
        Due.is("25: behind 2", x.stand(0, 0, 1), 2);
        x.does(0, 2, 1);
        Due.is("25: beside it", x.stand(0, 0, 0), 1);
        Due.is("25: at once", x.stand(0, 0, 1), 0);
        Due.walls(x, 1, 8);
        Due.is("25: of those without wall", x.stand(0, 0, 0), 10);
        x.does(0, 1, 4);
        x.does(0, 2, 0);
        Due.is("25: by pace the first near one", x.stand(0, 0, 0), 2);
        Due.is("25: behind 1", x.stand(0, 0, 1), 1);
        x.set(0, 0, 31);
        x.does(0, 1, 0);
        x.blow(0, 3, 7);
        x.blow(1, 0, 9);
        Due.is("25: down there", x.stand(0, 0, 0), 24);
        Due.puddles(x, 30);
        Due.is("25: no farther", x.stand(0, 0, 0), 30);
        x.street(1, 30, 0);
        x.set(0, 0, 25);
        Due.walls(x, 26);
        x.blow(0, 0, 9);
        Due.is("25: up to a wall", x.stand(0, 0, 0), 9);
        x.blow(0, 3, 9);
        Due.is("25: to the left", x.stand(0, 0, 0), 24);
        x.set(0, 0, 7);
        Due.is("25: up there the first is the farthest", x.stand(0, 0, 0), 2);
        x.street(0, 1, 0);
        Due.is("25: square 0", x.stand(0, 0, 0), 0);
        x.blow(0, 2, 9);
        Due.is("25: square 31", x.stand(0, 0, 0), 31);
        x.set(0, 0, 9);
        Due.is("25: what below", x.stand(0, 0, -1), -7);
        Due.is("25: what above", x.stand(0, 0, 2), -7);
        Due.is("25: hat ahead of what", x.stand(1, 0, 2), -5);
        Due.is("25: catcher ahead of what", x.stand(0, 1, 2), -5);
        Due.is("25: nothing changes", x.does(0, 0, 31), 31);
    }

    private static void longestWait() {
        HatDownTheStreet x = still(9, 12, 1, 0);
        Due.is("26: none to lose", x.wait(0, 0), 0);
        x.does(0, 0, 31);
        x.does(0, 1, 0);
        Due.is("26: one doesn't have it", x.wait(0, 0), -1);
        x.does(0, 0, 9);
        Due.is("26: at once", x.wait(0, 0), 0);
        x = still(8, 15, 1, 0);
        // It comes to 14 behind 5: one step then, so that one may set out behind 4.
        Due.gusts(x, 40, 40, 40, 40, RIGHT + 6);
        Due.is("26: caught", x.caught(0, 0), 5);
        Due.is("26: by one square", x.wait(0, 0), 4);
        x.does(0, 0, 31);
        Due.is("26: caught behind 5", x.caught(0, 0), 5);
        Due.is("26: by three squares", x.wait(0, 0), 2);
        x.does(0, 2, 3);
        Due.is("26: caught in reach", x.caught(0, 0), 5);
        Due.is("26: up to that n", x.wait(0, 0), 5);
        Due.is("26: no such hat", x.wait(1, 0), -5);
        Due.is("26: no such catcher", x.wait(0, 1), -5);
        Due.is("26: below", x.wait(-1, 0), -5);
    }

    private static void pace() {
        HatDownTheStreet x = still(31, 0, 0, 0);
        Due.is("27: any n", x.pace(0, 0, 0), 1);
        Due.is("27: below 11", x.pace(0, 0, 11), 1);
        Due.is("27: below 10", x.pace(0, 0, 10), 2);
        Due.is("27: below 6", x.pace(0, 0, 6), 2);
        Due.is("27: below 5", x.pace(0, 0, 5), 3);
        Due.is("27: below 4", x.pace(0, 0, 4), 4);
        Due.is("27: below 3", x.pace(0, 0, 3), -1);
        x.does(0, 2, 2);
        Due.is("27: its reach counts", x.pace(0, 0, 3), 4);
        x.does(0, 0, 30);
        Due.is("27: none needed", x.pace(0, 0, 1), 0);
        Due.is("27: second below", x.pace(0, 0, -1), -7);
        Due.is("27: second above", x.pace(0, 0, 25), -7);
        Due.is("27: 24", x.pace(0, 0, 24), 0);
        Due.is("27: hat ahead of second", x.pace(1, 0, 25), -5);
        Due.is("27: catcher ahead of second", x.pace(0, 1, 25), -5);
        Due.is("27: its own stays", x.does(0, 1, 0), 0);
    }

    private static void order() {
        HatDownTheStreet x = new HatDownTheStreet();
        Due.is("28: no catcher", x.order(0, 0), -5);
        Due.is("28: catcher ahead of what", x.order(0, 2), -5);
        x.come(8, 1, 0);
        Due.is("28: no hats", x.order(0, 0), 0);
        Due.is("28: no hats, n", x.order(0, 1), 0);
        x.hat(0, 11, 1);
        Due.is("28: one", x.order(0, 0), 1);
        Due.is("28: n of one", x.order(0, 1), 3);
        x.hat(0, 9, 1);
        Due.is("28: the near one first", x.order(0, 0), 21);
        Due.is("28: n of both", x.order(0, 1), 3);
        x.hat(0, 8, 1);
        Due.is("28: three", x.order(0, 0), 321);
        x.hat(0, 9, 1);
        Due.is("28: of like ones the first", x.order(0, 0), 3241);
        Due.is("28: n of four", x.order(0, 1), 3);
        x.does(0, 2, 3);
        Due.is("28: by reach one is in its square", x.order(0, 0), 1234);
        Due.is("28: all at once", x.order(0, 1), 0);
        x.does(0, 2, 0);
        x.does(0, 1, 0);
        Due.is("28: there is none", x.order(0, 0), -1);
        Due.is("28: nor n", x.order(0, 1), -1);
        Due.is("28: what below", x.order(0, -1), -7);
        Due.is("28: what above", x.order(0, 2), -7);
        Due.is("28: catcher below", x.order(-1, 0), -5);
        // One who must wait for a hat that comes, and then go where it was had.
        x = new HatDownTheStreet();
        x.come(0, 1, 2);
        x.hat(0, 7, 1);
        x.hat(20, 31, 1);
        Due.gusts(x, 40, LEFT + 7);
        Due.is("28: first what comes", x.order(0, 0), 12);
        // Had behind 2 in square 0; from there 31, which a cap leaves by one, less its reach.
        Due.is("28: then the far one", x.order(0, 1), 9);
    }

    private static void gain() {
        HatDownTheStreet x = still(11, 8, 1, 0);
        Due.is("29: 30 less 3", x.gain(0, 0), 27);
        x.does(0, 1, 0);
        Due.is("29: it is not", x.gain(0, 0), -100);
        Due.is("29: no such hat", x.gain(1, 0), -1000);
        Due.is("29: no such catcher", x.gain(0, 1), -1000);
        Due.is("29: below", x.gain(-1, 0), -1000);
        Due.is("29: below", x.gain(0, -1), -1000);
        String[] names = {"strength", "lie", "more", "second", "cell", "kind"};
        int[] due = {3, 2, 7, 1, 13, 1};
        for (int i = 0; i < names.length; i++) {
            x = Due.withLaw("goes 3;turns 1;worth " + names[i] + ";");
            x.hat(17, 8, 1);
            x.come(15, 3, 0);
            Due.gusts(x, 19);
            // On its rim 3 and 1 and 1 more: it is in 13 behind 1.
            Due.is("29: " + names[i], x.gain(0, 0), due[i]);
        }
        x = Due.withLaw("goes 0;turns 0;worth -1000;");
        x.hat(0, 0, 0);
        x.come(0, 0, 0);
        Due.is("29: not below -99", x.gain(0, 0), -99);
    }

    private static void whom() {
        HatDownTheStreet x = new HatDownTheStreet();
        Due.is("30: no catcher", x.whom(0, 0), -5);
        Due.is("30: catcher ahead of what", x.whom(0, 2), -5);
        x.come(8, 1, 0);
        Due.is("30: no hats", x.whom(0, 0), -1);
        Due.is("30: nothing", x.whom(0, 1), 0);
        x.hat(0, 12, 1);
        x.hat(0, 10, 1);
        x.hat(0, 16, 1);
        x.hat(0, 0, 1);
        Due.is("30: of like ones the first", x.whom(0, 0), 2);
        Due.is("30: that", x.whom(0, 1), 29);
        x.set(0, 0, 9);
        Due.is("30: the first of all", x.whom(0, 0), 0);
        x.set(0, 0, 12);
        Due.is("30: what below", x.whom(0, -1), -7);
        Due.is("30: what above", x.whom(0, 2), -7);
        Due.is("30: catcher below", x.whom(-1, 0), -5);
        Due.is("text", Due.text(x, "goes 0;turns 0;worth 1 - second;"), 1);
        x.force(1);
        Due.is("30: not of 0", x.whom(0, 0), -1);
        Due.is("30: 0", x.whom(0, 1), 0);
        x.set(1, 0, 8);
        Due.is("30: above 0", x.whom(0, 0), 1);
        Due.is("30: 1", x.whom(0, 1), 1);
    }

    private static void run() {
        HatDownTheStreet x = new HatDownTheStreet();
        Due.is("31: no hat", x.run(0, 0), -5);
        x.hat(20, 8, 1);
        x.hat(37, 16, 2);
        x.hat(1, 24, 1);
        Due.is("31: no catcher", x.run(0, 0), -5);
        x.come(0, 0, 0);
        x.come(20, 1, 0);
        Due.gusts(x, RIGHT + 1, RIGHT + 1, DOWN + 9);
        Due.is("31: it isn't had", x.run(1, 0), HatDownTheStreet.STATE);
        Due.is("31: nothing passed", x.told(1, 0), 16);
        Due.is("31: three", x.count(0), 3);
        // By 1 and 1 and 1 more it is in 19 behind 1.
        Due.is("31: behind 1", x.run(1, 1), 1);
        Due.is("31: two", x.count(0), 2);
        Due.is("31: the first is where it is then", x.told(0, 0), 9);
        Due.is("31: the last has 1 less", x.told(1, 0), 25);
        Due.is("31: and lies as then", x.told(1, 1), 2);
        Due.is("31: its more", x.told(1, 3), 1);
        Due.is("31: its kind", x.told(1, 2), 0);
        Due.is("31: the catcher is there", x.does(1, 0, 19), 19);
        Due.is("31: the other one is not", x.does(0, 0, 0), 0);
        Due.is("31: gusts stay", x.wind(0), RIGHT + 1);
        Due.is("31: no more of that number", x.told(2, 0), -5);
        Due.is("31: it can't be run for", x.run(2, 1), -5);
        Due.is("31: room for two more", x.hat(0, 0, 0), 2);
        Due.is("31: and one", x.hat(0, 0, 0), 3);
        Due.is("31: no such catcher", x.run(0, 2), -5);
        x.does(1, 2, 3);
        x.does(1, 0, 10);
        Due.is("31: in reach at once", x.run(0, 1), 0);
        Due.is("31: the catcher is in its square", x.does(1, 0, 9), 9);
    }
}
