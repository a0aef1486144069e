/** Terms: squares, gusts, hats, catchers; FAR, HAD, DRAWN, an image, sheets; and how long an object is used. */
public final class TermsTest {
    private static final int CAP = 20;

    public static void main(String[] args) {
        squares();
        nothingAtFirst();
        gusts();
        hats();
        catchers();
        far();
        farRoundWalls();
        had();
        hadAtLast();
        hadByOneWhoSetsOut();
        drawn();
        lotsByHand();
        anImage();
        nothingIsRemembered();
        sheets();
        refusals();
        calls();
        Due.end();
    }

    private static void squares() {
        Due.of("Terms, SQUARES", "SQUARES 0 .. 31: 8 times y (0 .. 3), and x (0 .. 7)");
        for (int c : new int[] {0, 7, 8, 15, 16, 23, 24, 31}) {
            HatDownTheStreet x = new HatDownTheStreet();
            Due.is("a puddle in " + c, x.street(1, c, 1), 0);
            Due.is("its bit", x.count(3), 1 << c);
            Due.is("a hat in " + c, x.hat(CAP, c, 0), 0);
            Due.is("is there", x.told(0, 0), c);
            Due.is("a catcher in " + c, x.come(c, 0, 0), 0);
            Due.is("has it", x.caught(0, 0), 0);
            Due.is("it is there", x.when(0, c), 0);
            Due.is("bit of its way", x.track(0, 24), 1 << c);
        }
        for (int c : new int[] {-1, 32, -32, 63, 64, Integer.MIN_VALUE, Integer.MAX_VALUE}) {
            HatDownTheStreet x = new HatDownTheStreet();
            Due.is("no square " + c, x.street(1, c, 1), HatDownTheStreet.BAD);
            Due.is("no hat in " + c, x.hat(CAP, c, 0), HatDownTheStreet.BAD);
            Due.is("no catcher in " + c, x.come(c, 0, 0), HatDownTheStreet.BAD);
            Due.is("no square asked", x.asks(0, 0, 0, 0, c), -1000);
            x.hat(CAP, 0, 0);
            x.come(0, 0, 0);
            Due.is("no hat comes to " + c, x.set(0, 0, c), -7);
            Due.is("no catcher comes to " + c, x.does(0, 0, c), -7);
            Due.is("none is in " + c, x.when(0, c), -7);
            Due.is("none comes from anywhere to " + c, x.from(0, 0, c), 0);
            Due.is("nor turned to " + c, x.turned(0, 0, c), -7);
        }
    }

    private static void nothingAtFirst() {
        Due.of("Terms, SQUARES", "A SQUARE has a WALL, a PUDDLE, an EDDY, or not (nothing of it at first).");
        HatDownTheStreet x = new HatDownTheStreet();
        for (int what = 0; what < 3; what++) {
            Due.is("count(" + (2 + what) + ")", x.count(2 + what), 0);
            for (int c = 0; c < 32; c++) {
                Due.is("street(" + what + ", " + c + ", 1)", x.street(what, c, 1), 0);
            }
            Due.is("all of them", x.count(2 + what), -1);
            Due.is("of the others none", x.count(what == 2 ? 2 : 3 + what), what == 2 ? -1 : 0);
        }
        for (int c = 0; c < 32; c++) {
            Due.is("no longer", x.street(0, c, 0), 1);
        }
        Due.is("no wall", x.count(2), 0);
        Due.is("each a puddle", x.count(3), -1);
        Due.is("and an eddy", x.count(4), -1);
    }

    private static void gusts() {
        Due.of("Terms, GUSTS", "GUSTS of SECONDS 0 .. 23: a WAY (0 .. 3 as above; 4: none; 4 at first), STRENGTH (0 .. 9; 0 at first).");
        HatDownTheStreet x = new HatDownTheStreet();
        for (int second = 0; second < 24; second++) {
            Due.is("at first", x.wind(second), 40);
        }
        for (int second = 0; second < 24; second += 23) {
            int was = 40;
            for (int way = 0; way <= 4; way++) {
                for (int how = 0; how <= 9; how++) {
                    Due.is("blow(" + second + ", " + way + ", " + how + ")", x.blow(second, way, how), was);
                    was = 10 * way + how;
                    Due.is("wind(" + second + ")", x.wind(second), was);
                }
            }
        }
        for (int second : new int[] {-1, 24}) {
            Due.is("no second " + second, x.blow(second, 0, 0), -5);
            Due.is("nor its wind", x.wind(second), -5);
        }
        Due.is("way below", x.blow(5, -1, 0), -7);
        Due.is("way above", x.blow(5, 5, 0), -7);
        Due.is("strength below", x.blow(5, 0, -1), -7);
        Due.is("strength above", x.blow(5, 0, 10), -7);
        Due.is("as at first", x.wind(5), 40);
    }

    private static void hats() {
        Due.of("Terms, HATS", "HATS are numbered from 0 on, 4 at most: of a KIND, with MORE (0 .. 9), in a SQUARE without WALL, LYING 0 on its crown, 1 on its rim, 2 on its brim.");
        HatDownTheStreet x = new HatDownTheStreet();
        Due.is("none at first", x.count(0), 0);
        Due.walls(x, 9);
        int[][] hats = {{0, 0, 0}, {59, 31, 2}, {10, 8, 1}, {39, 10, 2}};
        for (int h = 0; h < 4; h++) {
            Due.is("not yet", x.told(h, 0), -5);
            Due.is("in a wall", x.hat(hats[h][0], 9, hats[h][2]), HatDownTheStreet.BAD);
            Due.is("hat " + h, x.hat(hats[h][0], hats[h][1], hats[h][2]), h);
            Due.is("so many", x.count(0), h + 1);
        }
        Due.is("a fifth", x.hat(0, 0, 0), HatDownTheStreet.FULL);
        Due.is("four", x.count(0), 4);
        Due.is("no hat 4", x.told(4, 0), -5);
        for (int h = 0; h < 4; h++) {
            Due.is("square", x.told(h, 0), hats[h][1]);
            Due.is("lies", x.told(h, 1), hats[h][2]);
            Due.is("kind", x.told(h, 2), hats[h][0] / 10);
            Due.is("more", x.told(h, 3), hats[h][0] % 10);
        }
        for (int lie = 0; lie <= 2; lie++) {
            Due.isNot("lies " + lie, x.set(0, 1, lie), -7);
            Due.is("as told", x.told(0, 1), lie);
        }
        Due.is("lies 3", x.set(0, 1, 3), -7);
        Due.is("lies -1", x.set(0, 1, -1), -7);
    }

    private static void catchers() {
        Due.of("Terms, CATCHERS", "CATCHERS are numbered from 0 on, 4 at most: in a SQUARE without WALL, PACE (0 .. 4 SQUARES a SECOND), REACH (0 .. 3 SQUARES).");
        HatDownTheStreet x = new HatDownTheStreet();
        Due.is("none at first", x.count(1), 0);
        Due.walls(x, 9);
        for (int p = 0; p < 4; p++) {
            Due.is("not yet", x.does(p, 0, 0), -5);
            Due.is("in a wall", x.come(9, 0, 0), HatDownTheStreet.BAD);
            Due.is("too fast", x.come(8, 5, 0), HatDownTheStreet.BAD);
            Due.is("too slow", x.come(8, -1, 0), HatDownTheStreet.BAD);
            Due.is("too long an arm", x.come(8, 0, 4), HatDownTheStreet.BAD);
            Due.is("too short an arm", x.come(8, 0, -1), HatDownTheStreet.BAD);
            Due.is("catcher " + p, x.come(p == 1 ? 31 : p, p + 1, 3 - p), p);
            Due.is("so many", x.count(1), p + 1);
        }
        Due.is("a fifth", x.come(0, 0, 0), HatDownTheStreet.FULL);
        Due.is("four", x.count(1), 4);
        Due.is("no catcher 4", x.does(4, 0, 0), -5);
        for (int p = 0; p < 4; p++) {
            Due.is("square", x.does(p, 0, 8), p == 1 ? 31 : p);
            Due.is("pace", x.does(p, 1, 0), p + 1);
            Due.is("reach", x.does(p, 2, 0), 3 - p);
        }
    }

    /** A hat that stays, and one who goes a square a second, are as far as it takes. */
    private static void far() {
        Due.of("Terms, FAR", "FAR: how many SQUARES BESIDE each other lead from one to another one at least.");
        for (int from = 0; from < 32; from++) {
            HatDownTheStreet x = new HatDownTheStreet();
            x.hat(CAP, 0, 0);
            x.come(from, 1, 0);
            for (int to = 0; to < 32; to++) {
                x.set(0, 0, to);
                Due.is("from " + from + " to " + to, x.caught(0, 0), Math.abs(from % 8 - to % 8) + Math.abs(from / 8 - to / 8));
            }
        }
    }

    private static void farRoundWalls() {
        Due.of("Terms, FAR", "FAR: how many SQUARES BESIDE each other lead from one to another one at least.");
        HatDownTheStreet x = new HatDownTheStreet();
        x.hat(CAP, 0, 0);
        x.come(2, 1, 0);
        Due.is("straight on", x.caught(0, 0), 2);
        Due.walls(x, 1);
        Due.is("round one wall", x.caught(0, 0), 4);
        Due.walls(x, 9);
        Due.is("round two", x.caught(0, 0), 6);
        Due.walls(x, 17);
        Due.is("round three", x.caught(0, 0), 8);
        x.does(0, 2, 3);
        Due.is("its reach goes round them, too", x.caught(0, 0), 5);
        Due.walls(x, 25);
        Due.is("no way leads there", x.caught(0, 0), -1);
        x.does(0, 1, 4);
        Due.is("not by any pace", x.caught(0, 0), -1);
        x.street(0, 9, 0);
        x.does(0, 1, 1);
        x.does(0, 2, 0);
        Due.is("by the gap", x.caught(0, 0), 4);
        Due.puddles(x, 9);
        Due.eddies(x, 10);
        Due.is("puddles and eddies are no walls", x.caught(0, 0), 4);
        // To and fro between columns of walls: down, up, down, up.
        x = new HatDownTheStreet();
        Due.walls(x, 1, 9, 17, 11, 19, 27, 5, 13, 21, 15, 23, 31);
        x.hat(CAP, 7, 0);
        x.come(0, 1, 0);
        Due.is("a long way", x.caught(0, 0), 19);
        x.set(0, 0, 0);
        x.does(0, 0, 7);
        Due.is("and back", x.caught(0, 0), 19);
        x.does(0, 1, 4);
        Due.is("by 4", x.caught(0, 0), 5);
        x.does(0, 2, 3);
        Due.is("by 4 and 3", x.caught(0, 0), 4);
        Due.walls(x, 3);
        Due.is("no way", x.caught(0, 0), -1);
    }

    private static void had() {
        Due.of("Terms, HAD", "in a SQUARE as FAR as PACE times (n less m) and REACH together, or less");
        for (int pace = 0; pace <= 4; pace++) {
            for (int reach = 0; reach <= 3; reach++) {
                HatDownTheStreet x = new HatDownTheStreet();
                x.hat(CAP, 0, 0);
                x.come(0, pace, reach);
                for (int to = 0; to < 32; to++) {
                    x.does(0, 0, to);
                    int far = to % 8 + to / 8;
                    int less = Math.max(0, far - reach);
                    int due = less == 0 ? 0 : pace == 0 ? -1 : (less + pace - 1) / pace;
                    Due.is("from " + to + " by " + pace + " and " + reach, x.caught(0, 0), due);
                }
            }
        }
        // The hat flees as fast as one comes; a square nearer it is had.
        HatDownTheStreet x = new HatDownTheStreet();
        x.hat(CAP, 2, 0);
        x.come(0, 1, 1);
        Due.everyGust(x, 1, 1);
        Due.is("it flees to the edge", x.caught(0, 0), 6);
        x.does(0, 2, 2);
        Due.is("it is as far as the reach", x.caught(0, 0), 0);
        x.set(0, 0, 3);
        Due.is("a square farther till the edge", x.caught(0, 0), 5);
    }

    private static void hadAtLast() {
        Due.of("Terms, HAD", "the least n (m .. 24) such that the HAT BEHIND n is in a SQUARE");
        HatDownTheStreet x = new HatDownTheStreet();
        x.hat(CAP, 9, 0);
        x.come(10, 0, 0);
        x.blow(23, 1, 1);
        Due.is("behind 24", x.caught(0, 0), 24);
        x.blow(23, 4, 1);
        x.blow(22, 1, 1);
        Due.is("behind 23", x.caught(0, 0), 23);
        x.blow(22, 4, 1);
        Due.of("Terms, HAD", "there may be none.");
        Due.is("none", x.caught(0, 0), -1);
        Due.of("Terms, HAD", "the least n (m .. 24) such that the HAT BEHIND n is in a SQUARE");
        x.does(0, 0, 9);
        Due.is("behind 0", x.caught(0, 0), 0);
        x.does(0, 0, 11);
        x.blow(0, 1, 1);
        x.blow(3, 1, 1);
        x.blow(4, 1, 1);
        x.blow(5, 3, 1);
        Due.is("the least of several", x.caught(0, 0), 4);
        // What a hat passes in a second it is not in behind it.
        x = new HatDownTheStreet();
        x.hat(0, 8, 1);
        x.come(11, 0, 0);
        x.blow(0, 1, 6);
        Due.is("it only passes", x.caught(0, 0), -1);
    }

    private static void hadByOneWhoSetsOut() {
        Due.of("Terms, HAD", "HAD by a CATCHER who sets out from a SQUARE BEHIND m");
        // The first is had behind 24 only, the second in the same square then.
        HatDownTheStreet x = new HatDownTheStreet();
        x.hat(CAP, 9, 0);
        x.come(10, 0, 0);
        x.blow(23, 1, 1);
        x.hat(CAP, 10, 0);
        x.set(1, 0, 9);
        Due.is("both behind 24", x.order(0, 1), 24);
        Due.is("of like ones the first", x.order(0, 0), 12);
        x.set(1, 0, 12);
        Due.is("n is 24 at most", x.order(0, 0), -1);
        Due.of("Terms, HAD", "(m is 0, the SQUARE its own, where it is not told.)");
        x = new HatDownTheStreet();
        x.hat(CAP, 9, 0);
        x.come(12, 1, 0);
        Due.is("from its own square behind 0", x.caught(0, 0), 3);
    }

    private static void drawn() {
        Due.of("Terms, DRAWN", "DRAWN by a SEED (0 .. 99999): for each SECOND a LOT: WAY is LOT modulo 5, STRENGTH (LOT by 5, cut) modulo 10.");
        for (int seed : new int[] {0, 1, 2, 41, 44488, 44489, 99998, 99999}) {
            HatDownTheStreet x = new HatDownTheStreet();
            HatDownTheStreet y = new HatDownTheStreet();
            long lot = seed + 1;
            for (int second = 0; second < 24; second++) {
                lot = lot * 48271 % 2147483647;
                Due.is("blow", y.blow(second, (int) (lot % 5), (int) (lot / 5 % 10)), 40);
            }
            for (int h = 0; h < 4; h++) {
                int[] hat = new int[][] {{0, 9, 2}, {15, 12, 1}, {34, 18, 0}, {48, 29, 1}}[h];
                x.hat(hat[0], hat[1], hat[2]);
                y.hat(hat[0], hat[1], hat[2]);
                for (int n = 0; n <= 24; n++) {
                    Due.is("drawn(" + seed + ", " + h + ", " + n + ")", x.drawn(seed, h, n), y.at(h, n, 0));
                }
            }
        }
    }

    /** The first lots: by seed 0 48271; by 44488 2147489519, which is 5872; by 99999 4827100000, which is 532132706. */
    private static void lotsByHand() {
        Due.of("Terms, DRAWN", "LOTS: the first is (SEED and 1) times 48271 modulo 2147483647, each further one the last times 48271 modulo 2147483647.");
        HatDownTheStreet x = new HatDownTheStreet();
        x.hat(0, 9, 1);
        Due.is("by seed 0 4 to the right", x.drawn(0, 0, 1), 13);
        Due.is("by seed 44488 4 down, as 5872 is 2 by 5, and 1174", x.drawn(44488, 0, 1), 25);
        Due.is("by seed 99999 1 to the right", x.drawn(99999, 0, 1), 10);
        // 48271 * 48271 is 2330089441, modulo 2147483647 182605794: no way.
        Due.is("by seed 0 then none", x.drawn(0, 0, 2), 13);
        x.set(0, 0, 31);
        // 182605794 * 48271 modulo 2147483647 is 1291394886: 1 to the right.
        Due.is("by seed 0 at the edge", x.drawn(0, 0, 3), 31);
    }

    private static void anImage() {
        Due.of("Terms, AN IMAGE", "AN IMAGE keeps WALLS, PUDDLES, EDDIES, GUSTS, HATS, all of CATCHERS, how many there are of both, THE LAW.");
        // One thing is changed at a time; each comes back alone.
        for (int change = 0; change < 14; change++) {
            HatDownTheStreet x = Furnished.street();
            Due.is("image()", x.image(), 3);
            changeOne(x, change);
            Due.is("back() behind change " + change, x.back(), 3);
            HatDownTheStreet y = Furnished.street();
            y.image();
            Furnished.areAlike("change " + change + " and back()", x, y);
        }
    }

    private static void changeOne(HatDownTheStreet x, int change) {
        switch (change) {
            case 0: x.street(0, 20, 0); break;
            case 1: x.street(0, 31, 1); break;
            case 2: x.street(1, 13, 0); break;
            case 3: x.street(2, 31, 1); break;
            case 4: x.blow(0, 0, 3); break;
            case 5: x.blow(23, 4, 9); break;
            case 6: x.set(2, 0, 31); break;
            case 7: x.set(0, 1, 1); break;
            case 8: x.hat(59, 31, 2); break;
            case 9: x.run(1, 2); x.hat(20, 9, 1); break;
            case 10: x.does(2, 0, 31); break;
            case 11: x.does(1, 1, 4); x.does(0, 2, 3); break;
            case 12: x.come(31, 4, 3); break;
            default: x.force(2); break;
        }
    }

    /** Whatever was asked before a change, what is asked behind it is as if it had not been. */
    private static void nothingIsRemembered() {
        Due.of("Terms, REFUSALS", "What is asked changes nothing, but where it is told.");
        for (int change = 0; change < 24; change++) {
            HatDownTheStreet x = Furnished.street();
            HatDownTheStreet y = Furnished.street();
            Furnished.asked(x);
            changeMore(x, change);
            changeMore(y, change);
            Furnished.compare("what is asked ahead of change " + change, Furnished.asked(x), Furnished.asked(y));
            Furnished.areAlike("what is asked behind change " + change, x, y);
        }
    }

    private static void changeMore(HatDownTheStreet x, int change) {
        switch (change) {
            case 14: x.set(1, 0, 0); break;
            case 15: x.set(1, 1, 2); break;
            case 16: x.does(1, 0, 13); break;
            case 17: x.does(1, 2, 3); break;
            case 18: x.pass(3); break;
            case 19: x.gustsBy(Furnished.SHORTS, 1, 0, 13); break;
            case 20: x.film(Furnished.INTS, 2, 5); break;
            case 21: x.run(0, 2); break;
            case 22: x.hat(20, 0, 0); x.back(); x.hat(31, 9, 1); x.come(10, 1, 1); break;
            case 23: x.street(1, 10, 1); break;
            default: changeOne(x, change); break;
        }
    }

    private static void sheets() {
        Due.of("Terms, SHEETS", "SHEETS 0 .. 3 are rows of numbers, or missing (as all are at first): of sort 0 bytes, 1 shorts, 2 ints, 40 at most.");
        HatDownTheStreet x = new HatDownTheStreet();
        for (int s = 0; s < 4; s++) {
            Due.is("missing at first", x.cell(s, 0, 0), -11);
            for (int sort = 0; sort <= 2; sort++) {
                Due.is("40 of sort " + sort, x.sheet(s, sort, 40), 1);
                Due.is("the last", x.cell(s, 39, 0), 1);
                Due.is("no more", x.cell(s, 40, 0), -12);
                Due.is("41 of sort " + sort, x.sheet(s, sort, 41), HatDownTheStreet.BAD);
                Due.is("of that sort", x.gustsBy(s, sort, 0, 1), 1);
                Due.is("of no other", x.gustsBy(s, (sort + 1) % 3, 0, 1), -13);
                Due.is("none", x.sheet(s, sort, 0), 1);
                Due.is("no place", x.cell(s, 0, 0), -12);
            }
            Due.is("sort 3", x.sheet(s, 3, 1), HatDownTheStreet.BAD);
            Due.is("sort -2", x.sheet(s, -2, 1), HatDownTheStreet.BAD);
        }
        Due.is("sheet 4", x.sheet(4, 0, 1), HatDownTheStreet.BAD);
        Due.is("sheet -1", x.sheet(-1, 0, 1), HatDownTheStreet.BAD);
    }

    private static void refusals() {
        Due.of("Terms, REFUSALS", "NONE there is no such thing; BAD a number is not as told; STATE as told; FULL.");
        HatDownTheStreet x = new HatDownTheStreet();
        Due.is("NONE", x.street(3, 0, 0), -1);
        Due.is("BAD", x.street(0, 32, 0), -2);
        Due.is("STATE", x.back(), -3);
        for (int h = 0; h < 4; h++) {
            Due.is("a hat", x.hat(CAP, h, 0), h);
        }
        Due.is("FULL", x.hat(CAP, 0, 0), -4);
        Due.is("NO", x.odds(0, 1, 0, 0), -4611686018427387904L);
        Due.of("Terms, REFUSALS", "The host's: -11 nothing there, -12 a place outside, -13 of another sort or KIND, -14 a size below 0.");
        Due.is("nothing there", x.cell(0, 0, 0), -11);
        x.sheet(0, 0, 1);
        x.sheet(1, 1, 1);
        Due.is("a place outside", x.cell(0, 1, 0), -12);
        Due.is("of another sort", x.copy(0, 0, 1, 0, 1), -13);
        Due.is("of another kind", x.taken(32, 1), -13);
        Due.is("a size below 0", x.sheet(0, 0, -1), -14);
    }

    private static void calls() {
        Due.of("What it is", "An object is used for at most 512 calls after it has been made");
        HatDownTheStreet x = new HatDownTheStreet();
        for (int call = 1; call <= 510; call++) {
            int ago = call - 24;
            Due.is("call " + call, x.blow(call % 24, call % 5, call % 10), ago < 1 ? 40 : 10 * (ago % 5) + ago % 10);
        }
        Due.is("call 511", x.hat(37, 31, 2), 0);
        Due.is("call 512", x.told(0, 0), 31);
        // A bowler goes 3 on its rim, 2 on its brim, and then stays on its crown.
        x = new HatDownTheStreet();
        x.hat(10, 8, 1);
        Due.everyGust(x, 1, 2);
        for (int call = 26; call <= 512; call++) {
            int n = call % 25;
            Due.is("call " + call + " of at()", x.at(0, n, 0), n == 0 ? 8 : n == 1 ? 11 : 13);
        }
    }
}
