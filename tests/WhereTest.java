/** Promises 15 to 22: where it goes; the kinds and a second, by at(). */
public final class WhereTest {
    private static final int UP = 0, RIGHT = 10, DOWN = 20, LEFT = 30;

    public static void main(String[] args) {
        far();
        lies();
        eddies();
        stops();
        namesOfASecond();
        at();
        pass();
        when();
        track();
        over();
        round();
        from();
        keeps();
        Due.end();
    }

    /** How far a hat goes along a wall-less row of eight, or down and up, behind one second. */
    private static void goes(int kindMore, int lie, int strength, int due) {
        HatDownTheStreet x = new HatDownTheStreet();
        // Of 12 squares only 7 fit in a row: what is farther ends at the edge.
        x.hat(kindMore, 8, lie);
        Due.gusts(x, RIGHT + strength);
        Due.is("15: " + kindMore + " lying " + lie + " by " + strength, x.at(0, 1, 0), 8 + Math.min(7, due));
    }

    private static void far() {
        for (int strength = 0; strength <= 9; strength++) {
            for (int more = 0; more <= 9; more += 3) {
                goes(more, 0, strength, strength / 3);
                goes(more, 1, strength, strength);
                goes(more, 2, strength, strength);
                goes(10 + more, 0, strength, strength / 3);
                goes(10 + more, 1, strength, strength + 1 + more / 4);
                goes(10 + more, 2, strength, strength);
                goes(50 + more, 0, strength, Math.max(0, strength / 3 - more));
                goes(50 + more, 1, strength, Math.max(0, strength - more));
                for (int lie = 0; lie <= 2; lie++) {
                    goes(20 + more, lie, strength, Math.min(1, strength));
                    goes(30 + more, lie, strength, strength + 1 + more / 4);
                    goes(40 + more, lie, strength, strength > 1 ? strength + more / 2 : strength);
                }
            }
        }
    }

    private static void lies() {
        for (int kind = 0; kind <= 5; kind++) {
            for (int lie = 0; lie <= 2; lie++) {
                for (int turns = 0; turns <= 3; turns++) {
                    HatDownTheStreet x = Due.withLaw("goes 6;turns " + turns + ";worth 0;");
                    x.hat(10 * kind, 8, lie);
                    Due.gusts(x, RIGHT, LEFT, LEFT);
                    int turned = kind == 2 || kind == 4 ? lie : (lie + turns) % 3;
                    Due.is("15: " + kind + " has gone", x.at(0, 1, 1), turned);
                    x.set(0, 0, 15);
                    Due.is("15: " + kind + " has not gone", x.at(0, 1, 1), lie);
                }
            }
        }
    }

    private static void eddies() {
        int[] ahead = {9, 18, 25, 16};
        for (int kindMore = 0; kindMore <= 59; kindMore++) {
            int kind = kindMore / 10;
            for (int way = 0; way < 4; way++) {
                HatDownTheStreet x = Due.withLaw("goes 1 + more * (kind = 5);turns 0;worth 0;");
                Due.eddies(x, 17);
                // A wall behind each square beside keeps any hat from going farther.
                Due.walls(x, 1, 19);
                x.hat(kindMore, 17, 2);
                Due.gusts(x, 10 * way);
                if (kindMore == 59) {
                    // The text says 9 at most, and it goes 9 less.
                    Due.is("15: too wet", x.at(0, 1, 0), 17);
                    continue;
                }
                int turned = kind == 5 ? way : kind == 3 ? (way + 1 + kindMore % 10) % 4 : (way + 1) % 4;
                Due.is("15: in an eddy " + kindMore + " by " + way, x.at(0, 1, 0), ahead[turned]);
            }
        }
        HatDownTheStreet x = new HatDownTheStreet();
        Due.eddies(x, 9, 12);
        x.hat(0, 8, 1);
        Due.gusts(x, RIGHT + 4, RIGHT + 1);
        Due.is("15: an eddy on the way turns nothing", x.at(0, 1, 0), 12);
        Due.is("15: but as the second begins", x.at(0, 2, 0), 20);
    }

    private static void stops() {
        HatDownTheStreet x = new HatDownTheStreet();
        x.hat(0, 0, 1);
        x.hat(0, 31, 1);
        x.hat(0, 15, 1);
        x.hat(0, 16, 1);
        Due.gusts(x, UP + 9, LEFT + 9);
        Due.is("15: none above", x.at(0, 1, 0), 0);
        Due.is("15: none to the left", x.at(0, 2, 0), 0);
        Due.is("15: three up", x.at(1, 1, 0), 7);
        Due.is("15: seven to the left", x.at(1, 2, 0), 0);
        Due.is("15: from 15 up", x.at(2, 1, 0), 7);
        Due.is("15: from 16 left stays", x.at(3, 2, 0), 0);
        Due.gusts(x, RIGHT + 9, DOWN + 9);
        Due.is("15: not round the edge to the right", x.at(2, 1, 0), 15);
        Due.is("15: down", x.at(2, 2, 0), 31);
        Due.is("15: none below", x.at(1, 2, 0), 31);
        Due.walls(x, 3, 7);
        Due.is("15: a wall", x.at(0, 1, 0), 2);
        Due.puddles(x, 2, 1);
        Due.is("15: a puddle", x.at(0, 1, 0), 1);
        Due.is("15: it turns over, too", x.at(0, 1, 1), 2);
        Due.is("15: and stays there", x.at(0, 2, 0), 1);
        Due.is("15: and lies so", x.at(0, 24, 1), 2);
        Due.eddies(x, 0);
        Due.puddles(x, 0);
        Due.is("15: a puddle is ahead of an eddy", x.at(0, 24, 0), 0);
        Due.is("15: nothing in a puddle", x.at(0, 24, 1), 1);
        x = Due.withLaw("goes 9;turns 1;worth 0;");
        x.hat(0, 8, 1);
        Due.gusts(x, 49, RIGHT);
        Due.is("15: no way, no second", x.at(0, 1, 0), 8);
        Due.is("15: nor turned", x.at(0, 1, 1), 1);
        Due.is("15: then", x.at(0, 2, 0), 15);
    }

    private static void namesOfASecond() {
        HatDownTheStreet x = Due.withLaw("goes strength + second;turns 0;worth 0;");
        x.hat(0, 8, 1);
        Due.gusts(x, 40, 40, RIGHT + 1);
        Due.is("15: second and strength", x.at(0, 3, 0), 11);
        x = Due.withLaw("goes cell - 7;turns cell;worth 0;");
        x.hat(0, 8, 1);
        Due.gusts(x, RIGHT, RIGHT);
        Due.is("15: cell as the second begins", x.at(0, 1, 0), 9);
        Due.is("15: also of turns", x.at(0, 1, 1), 0);
        x = Due.withLaw("goes lie + 1;turns lie;worth 0;");
        x.hat(0, 8, 1);
        Due.gusts(x, RIGHT, RIGHT);
        Due.is("15: lie as the second begins", x.at(0, 1, 0), 10);
        Due.is("15: lies", x.at(0, 1, 1), 2);
        Due.is("15: lie then", x.at(0, 2, 0), 13);
        Due.is("15: lies then", x.at(0, 2, 1), 1);
        x = Due.withLaw("goes more;turns kind;worth 0;");
        x.hat(14, 8, 2);
        Due.gusts(x, RIGHT);
        Due.is("15: more", x.at(0, 1, 0), 12);
        Due.is("15: kind", x.at(0, 1, 1), 0);
    }

    private static void at() {
        HatDownTheStreet x = new HatDownTheStreet();
        Due.is("15: no hat", x.at(0, 0, 0), -5);
        x.hat(0, 9, 1);
        int[][] bad = {{-1, 0}, {25, 0}, {0, -1}, {0, 2}};
        for (int[] b : bad) {
            Due.is("15: wrong", x.at(0, b[0], b[1]), -7);
            Due.is("15: no such hat ahead of it", x.at(1, b[0], b[1]), -5);
            Due.is("15: nor below", x.at(-1, b[0], b[1]), -5);
        }
        x.blow(23, 1, 2);
        Due.is("15: behind 23", x.at(0, 23, 0), 9);
        Due.is("15: behind 24", x.at(0, 24, 0), 11);
        Due.is("15: nothing changes", x.told(0, 0), 9);
    }

    private static void pass() {
        HatDownTheStreet x = new HatDownTheStreet();
        Due.is("16: no hats", x.pass(24), 0);
        x.hat(0, 8, 1);
        x.hat(0, 9, 1);
        x.hat(0, 16, 2);
        Due.puddles(x, 13, 8);
        Due.gusts(x, RIGHT + 2, RIGHT + 2, RIGHT + 2);
        Due.is("16: below", x.pass(-1), HatDownTheStreet.BAD);
        Due.is("16: above", x.pass(25), HatDownTheStreet.BAD);
        Due.is("16: none pass, one is in a puddle", x.pass(0), 1);
        Due.is("16: it stays", x.told(1, 0), 9);
        Due.is("16: two are in puddles", x.pass(2), 2);
        Due.is("16: in a puddle at once", x.told(0, 0), 8);
        Due.is("16: into a puddle", x.told(1, 0), 13);
        Due.is("16: it lies", x.told(1, 1), 0);
        // On its crown it goes no farther by 2.
        Due.is("16: not into one", x.told(2, 0), 18);
        Due.is("16: lies on its crown", x.told(2, 1), 0);
        Due.is("16: gusts stay", x.wind(0), RIGHT + 2);
        Due.is("16: a puddle where no hat is any more", x.street(1, 0, 1), 0);
        Due.is("16: counts nothing", x.pass(0), 2);
        x.set(2, 1, 1);
        Due.is("16: again by the same gusts", x.at(2, 1, 0), 20);
    }

    private static void when() {
        HatDownTheStreet x = new HatDownTheStreet();
        Due.is("17: no hat", x.when(0, 0), -5);
        x.hat(20, 8, 0);
        Due.gusts(x, RIGHT + 2, RIGHT + 2, LEFT + 2);
        x.blow(23, 2, 1);
        Due.is("17: at once", x.when(0, 8), 0);
        Due.is("17: least", x.when(0, 9), 1);
        Due.is("17: 10", x.when(0, 10), 2);
        Due.is("17: 24", x.when(0, 17), 24);
        Due.is("17: never", x.when(0, 11), -1);
        Due.is("17: no such square", x.when(0, 32), -7);
        Due.is("17: nor below", x.when(0, -1), -7);
        Due.is("17: hat ahead of square", x.when(1, 32), -5);
        Due.walls(x, 11);
        Due.is("17: a wall's square", x.when(0, 11), -1);
    }

    private static void track() {
        HatDownTheStreet x = new HatDownTheStreet();
        Due.is("18: no hat", x.track(0, 0), 0);
        x.hat(1, 24, 1);
        Due.gusts(x, RIGHT + 7, UP + 2);
        Due.is("18: behind 0", x.track(0, 0), 1 << 24);
        Due.is("18: not what it passed", x.track(0, 1), 1 << 24 | 1 << 31);
        Due.is("18: behind 24", x.track(0, 24), 1 << 24 | 1 << 31 | 1 << 15);
        Due.is("18: n below", x.track(0, -1), 0);
        Due.is("18: n above", x.track(0, 25), 0);
        Due.is("18: no such hat", x.track(1, 0), 0);
        Due.is("18: nor below", x.track(-1, 0), 0);
    }

    private static void over() {
        HatDownTheStreet x = new HatDownTheStreet();
        Due.is("19: no hat", x.over(0), -5);
        x.hat(20, 8, 0);
        Due.gusts(x, RIGHT + 2, 42, RIGHT + 2);
        x.blow(23, 1, 1);
        Due.is("19: never", x.over(0), -1);
        Due.puddles(x, 11);
        Due.is("19: behind 24", x.over(0), 24);
        Due.puddles(x, 10);
        Due.is("19: behind 3", x.over(0), 3);
        Due.puddles(x, 8);
        Due.is("19: at once", x.over(0), 0);
        Due.is("19: no such hat", x.over(1), -5);
        Due.is("19: nor below", x.over(-1), -5);
    }

    private static void round() {
        HatDownTheStreet x = new HatDownTheStreet();
        Due.is("20: no hat", x.round(0, 0), -5);
        x.hat(20, 8, 0);
        Due.is("20: it stays", x.round(0, 0), 1);
        Due.is("20: each day", x.round(0, 1), 1);
        x.blow(0, 1, 1);
        // A square a day: on day 7 at the edge, where it is on day 8.
        Due.is("20: to the edge", x.round(0, 0), 8);
        Due.is("20: there each day", x.round(0, 1), 1);
        Due.eddies(x, 8, 9, 17, 16);
        // 8 goes down by its eddy, 16 too, 24 to the right, the rest as far as the edge.
        Due.is("20: by eddies", x.round(0, 0), 10);
        Due.is("20: what below", x.round(0, -1), -7);
        Due.is("20: what above", x.round(0, 2), -7);
        Due.is("20: hat ahead of what", x.round(1, 2), -5);
        Due.is("20: nor below", x.round(-1, 0), -5);
        // Right, down, left, up: it comes round each second day and turns over twice in it.
        x = Due.withLaw("goes 1;turns 1;worth 0;");
        x.hat(0, 8, 1);
        Due.gusts(x, RIGHT, LEFT);
        Due.is("20: it is there, but lies otherwise", x.round(0, 0) > 1 ? 1 : 0, 1);
        // Lies 1, 2 -> 0, on its crown 1 / 3 is 0: it goes no more.
        Due.is("20: then it lies on its crown", x.round(0, 0), 2);
        Due.is("20: and stays so", x.round(0, 1), 1);
        x = Due.withLaw("goes 3;turns 1;worth 0;");
        x.hat(30, 8, 1);
        Due.gusts(x, RIGHT, LEFT);
        Due.is("20: a ball lies as at first behind 3 days", x.round(0, 0), 3);
        Due.is("20: each third day", x.round(0, 1), 3);
        x = new HatDownTheStreet();
        x.hat(20, 8, 0);
        x.blow(0, 1, 1);
        Due.eddies(x, 10, 26);
        Due.walls(x, 27, 25, 18);
        Due.is("20: ahead of a wall in an eddy", x.round(0, 0), 3);
        x = new HatDownTheStreet();
        x.hat(20, 0, 0);
        x.hat(20, 31, 2);
        x.blow(23, 1, 1);
        Due.is("20: the last second counts", x.round(0, 0), 8);
        Due.is("20: at the last square", x.round(1, 0), 1);
        Due.is("20: the first square is remembered anew", x.round(0, 1), 1);
        x = Due.withLaw("goes 1;turns 0;worth 0;");
        x.hat(0, 0, 0);
        Due.eddies(x, 0, 1);
        x.set(0, 1, 1);
        Due.gusts(x, LEFT, RIGHT);
        // Left in an eddy is up: it stays; right in it is down; from there to and fro.
        Due.is("20: out of an eddy", x.round(0, 0), 3);
    }

    private static void from() {
        HatDownTheStreet x = new HatDownTheStreet();
        Due.is("21: no hat", x.from(0, 0, 0), 0);
        x.hat(0, 8, 1);
        Due.gusts(x, RIGHT + 9);
        Due.is("21: a whole row", x.from(0, 1, 15), 0xFF00);
        Due.is("21: nothing comes there", x.from(0, 1, 14), 0);
        Due.is("21: behind 0 its own", x.from(0, 0, 31), 1 << 31);
        Due.walls(x, 11);
        Due.is("21: behind a wall", x.from(0, 1, 15), 0xF000);
        Due.is("21: ahead of it", x.from(0, 1, 10), 0x0700);
        Due.is("21: not of the wall", x.from(0, 0, 11), 0);
        Due.puddles(x, 13);
        Due.is("21: by a puddle", x.from(0, 1, 13), 0x3000);
        x.set(0, 1, 0);
        Due.is("21: lying as it does", x.from(0, 1, 10), 0x0700);
        Due.is("21: on its crown three", x.from(0, 1, 3), 1);
        Due.is("21: n below", x.from(0, -1, 15), 0);
        Due.is("21: n above", x.from(0, 25, 15), 0);
        Due.is("21: square below", x.from(0, 0, -1), 0);
        Due.is("21: square above", x.from(0, 0, 32), 0);
        Due.is("21: no such hat", x.from(1, 0, 0), 0);
        Due.is("21: nothing changes", x.told(0, 0), 8);
    }

    private static void keeps() {
        HatDownTheStreet x = new HatDownTheStreet();
        Due.is("22: no hat", x.keeps(0, 0, 0), -5);
        x.hat(0, 8, 1);
        Due.is("22: of like ones the first", x.keeps(0, 24, 0), 0);
        Due.is("22: one", x.keeps(0, 24, 1), 1);
        Due.gusts(x, RIGHT + 9);
        Due.is("22: the first edge", x.keeps(0, 1, 0), 7);
        Due.is("22: eight", x.keeps(0, 1, 1), 8);
        Due.walls(x, 7, 3);
        Due.is("22: the next", x.keeps(0, 1, 0), 15);
        Due.is("22: eight of it", x.keeps(0, 1, 1), 8);
        int[][] bad = {{-1, 0}, {25, 0}, {0, -1}, {0, 2}};
        for (int[] b : bad) {
            Due.is("22: wrong", x.keeps(0, b[0], b[1]), -7);
            Due.is("22: no such hat ahead of it", x.keeps(1, b[0], b[1]), -5);
        }
        Due.walls(x, 0);
        Due.is("22: not of a wall", x.keeps(0, 0, 0), 1);
        x = new HatDownTheStreet();
        x.hat(0, 8, 1);
        Due.gusts(x, DOWN + 9, RIGHT + 9);
        Due.walls(x, 7, 15);
        Due.is("22: all come to the last", x.keeps(0, 2, 0), 31);
        Due.is("22: with its own", x.keeps(0, 2, 1), 30);
    }
}
