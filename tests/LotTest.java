/** Promises 43 to 46: days by lot, images. */
public final class LotTest {
    private static final long NO = HatDownTheStreet.NO;
    private static final int STATE = HatDownTheStreet.STATE;
    private static final int CAP = 20;
    private static final int[] NO_SUCH = {-1, 4, Integer.MIN_VALUE, Integer.MAX_VALUE};

    public static void main(String[] args) {
        drawn();
        drawnRefused();
        odds();
        oddsOfAll();
        oddsBeyondTheLastSeed();
        oddsOfUnlikeMany();
        oddsRefused();
        image();
        back();
        numbersAnew();
        backAgain();
        fourAndFour();
        whatNoImageKeeps();
        Due.end();
    }

    /** The same day, blown by hand. */
    private static void blowDrawn(HatDownTheStreet x, int seed) {
        long lot = seed + 1;
        for (int second = 0; second < 24; second++) {
            lot = lot * 48271 % 2147483647;
            x.blow(second, (int) (lot % 5), (int) (lot / 5 % 10));
        }
    }

    private static void drawn() {
        Due.of("Promise 43", "DRAWN: its SQUARE BEHIND n.");
        for (int seed : new int[] {0, 7, 4711, 99998, 99999}) {
            HatDownTheStreet x = new HatDownTheStreet();
            HatDownTheStreet y = new HatDownTheStreet();
            blowDrawn(y, seed);
            for (int h = 0; h < 4; h++) {
                for (HatDownTheStreet z : new HatDownTheStreet[] {x, y}) {
                    z.hat(10 * h + 3, 9 + h, 2);
                    z.street(2, 10 + 2 * h, 1);
                    z.street(0, 22 + h, 1);
                }
                for (int n = 0; n <= 24; n++) {
                    Due.is("drawn(" + seed + ", " + h + ", " + n + ")", x.drawn(seed, h, n), y.at(h, n, 0));
                }
            }
            for (int second = 0; second < 24; second++) {
                Due.is("gusts stay", x.wind(second), 40);
            }
        }
        // Seed 0: the first lot is 48271: way 1, strength 4; the gusts that blow are no matter.
        HatDownTheStreet x = new HatDownTheStreet();
        x.hat(0, 9, 1);
        x.blow(0, 2, 9);
        Due.is("behind 0", x.drawn(0, 0, 0), 9);
        Due.is("by seed 0", x.drawn(0, 0, 1), 13);
        Due.is("it stays", x.told(0, 0), 9);
    }

    private static void drawnRefused() {
        Due.of("Promise 43", "-5: no such HAT; -7: SEED, n.");
        HatDownTheStreet x = new HatDownTheStreet();
        Due.is("no hat", x.drawn(0, 0, 0), -5);
        Due.is("hat ahead of seed", x.drawn(-1, 0, 0), -5);
        Due.is("hat ahead of n", x.drawn(0, 0, 25), -5);
        x.hat(CAP, 8, 0);
        for (int seed : new int[] {-1, 100000, Integer.MIN_VALUE, Integer.MAX_VALUE}) {
            Due.is("seed " + seed, x.drawn(seed, 0, 0), -7);
            for (int h : NO_SUCH) {
                Due.is("hat ahead of seed", x.drawn(seed, h, 0), -5);
            }
        }
        for (int n : new int[] {-1, 25, Integer.MIN_VALUE, Integer.MAX_VALUE}) {
            Due.is("n " + n, x.drawn(0, 0, n), -7);
            for (int h : NO_SUCH) {
                Due.is("hat ahead of n", x.drawn(0, h, n), -5);
            }
        }
        Due.is("the first seed", x.drawn(0, 0, 0), 8);
        Due.is("the last seed", x.drawn(99999, 0, 0), 8);
    }

    private static HatDownTheStreet twoAndTwo() {
        HatDownTheStreet x = new HatDownTheStreet();
        x.hat(0, 9, 1);
        x.hat(25, 31, 1);
        x.come(0, 0, 0);
        x.come(31, 0, 0);
        return x;
    }

    private static long gcd(long a, long b) {
        return b == 0 ? a : gcd(b, a % b);
    }

    private static void odds() {
        Due.of("Promise 44", "In how many of so many (1 .. 30) seeds, SEED and each 1 more (they may pass 99999), one has it (hp: 10 times the HAT, and the CATCHER): part 0 above, 1 below the line, in lowest terms.");
        for (int hp : new int[] {0, 1, 10, 11}) {
            HatDownTheStreet x = twoAndTwo();
            for (int seed : new int[] {0, 500, 99970, 99999}) {
                long above = 0;
                for (int seeds = 1; seeds <= 30; seeds++) {
                    HatDownTheStreet y = twoAndTwo();
                    blowDrawn(y, seed + seeds - 1);
                    above += y.caught(hp / 10, hp % 10) >= 0 ? 1 : 0;
                    long common = gcd(above, seeds);
                    Due.is("above " + hp + " in " + seeds + " from " + seed, x.odds(seed, seeds, hp, 0), above / common);
                    Due.is("below " + hp + " in " + seeds + " from " + seed, x.odds(seed, seeds, hp, 1), seeds / common);
                }
            }
            Due.is("gusts stay", x.wind(0), 40);
        }
    }

    private static void oddsOfAll() {
        Due.of("Promise 44", "part 0 above, 1 below the line, in lowest terms.");
        HatDownTheStreet x = new HatDownTheStreet();
        for (int i = 0; i < 4; i++) {
            x.hat(CAP, 31, 1);
            x.come(31, 0, 0);
        }
        for (int seeds = 1; seeds <= 30; seeds++) {
            Due.is("always in " + seeds, x.odds(3, seeds, 33, 0), 1);
            Due.is("of 1", x.odds(3, seeds, 33, 1), 1);
        }
        x.does(3, 0, 0);
        Due.walls(x, 1, 8);
        for (int seeds = 1; seeds <= 30; seeds++) {
            Due.is("never in " + seeds, x.odds(3, seeds, 33, 0), 0);
            Due.is("of 1", x.odds(3, seeds, 33, 1), 1);
        }
        Due.is("another one has it", x.odds(3, 30, 32, 0), 1);
        Due.is("another hat is not had", x.odds(3, 30, 23, 0), 0);
        x.set(2, 0, 0);
        Due.is("there it is", x.odds(3, 30, 23, 0), 1);
    }

    /** A hat beside the catcher's square, that only one lot in some seeds brings there at once. */
    private static void oddsBeyondTheLastSeed() {
        Due.of("Promise 44", "SEED and each 1 more (they may pass 99999)");
        HatDownTheStreet x = new HatDownTheStreet();
        x.hat(CAP, 9, 1);
        x.come(1, 0, 0);
        Due.puddles(x, 8, 10, 17);
        // Each way leads to a puddle, so that its first way but none, and but by strength 0, is all that counts.
        for (int seeds = 1; seeds <= 30; seeds++) {
            int many = 0;
            for (int seed = 99999; seed < 99999 + seeds; seed++) {
                many += firstWay(seed) == 0 ? 1 : 0;
            }
            long common = gcd(many, seeds);
            Due.is("up in " + seeds, x.odds(99999, seeds, 0, 0), many / common);
            Due.is("of", x.odds(99999, seeds, 0, 1), seeds / common);
        }
    }

    private static int firstWay(int seed) {
        long lot = seed + 1;
        for (int second = 0; second < 24; second++) {
            lot = lot * 48271 % 2147483647;
            if (lot % 5 != 4 && lot / 5 % 10 != 0) {
                return (int) (lot % 5);
            }
        }
        return -1;
    }

    private static void oddsOfUnlikeMany() {
        Due.of("Promise 44", "(hp: 10 times the HAT, and the CATCHER)");
        for (int hats = 1; hats <= 4; hats++) {
            for (int catchers = 1; catchers <= 4; catchers++) {
                HatDownTheStreet x = new HatDownTheStreet();
                for (int i = 0; i < hats; i++) {
                    x.hat(CAP, i, 0);
                }
                for (int i = 0; i < catchers; i++) {
                    x.come(i, 0, 0);
                }
                for (int h = 0; h <= 4; h++) {
                    for (int p = 0; p <= 4; p++) {
                        long odds = x.odds(0, 1, 10 * h + p, 1);
                        Due.is("hat " + h + " of " + hats + ", catcher " + p + " of " + catchers, odds, h < hats && p < catchers ? 1 : NO);
                    }
                }
            }
        }
    }

    private static void oddsRefused() {
        Due.of("Promise 44", "NO: none such.");
        HatDownTheStreet x = new HatDownTheStreet();
        Due.is("neither", x.odds(0, 1, 0, 0), NO);
        x.hat(CAP, 9, 1);
        Due.is("no catcher", x.odds(0, 1, 0, 0), NO);
        x.come(0, 0, 0);
        x.hat(CAP, 9, 1);
        x.come(0, 0, 0);
        int least = Integer.MIN_VALUE;
        int most = Integer.MAX_VALUE;
        int[][] bad = {
            {-1, 1, 0, 0}, {100000, 1, 0, 0}, {0, 0, 0, 0}, {0, -1, 0, 0}, {0, 31, 0, 0}, {0, 1, -1, 0}, {0, 1, 2, 0}, {0, 1, 9, 0},
            {0, 1, 12, 0}, {0, 1, 19, 0}, {0, 1, 20, 0}, {0, 1, 21, 0}, {0, 1, 100, 0}, {0, 1, -9, 0}, {0, 1, -10, 0}, {0, 1, 0, -1},
            {0, 1, 0, 2}, {least, 1, 0, 0}, {most, 1, 0, 0}, {0, least, 0, 0}, {0, most, 0, 0}, {0, 1, least, 0}, {0, 1, most, 0},
            {0, 1, 0, least}, {0, 1, 0, most}};
        for (int[] b : bad) {
            Due.is("odds of " + b[0] + " " + b[1] + " " + b[2] + " " + b[3], x.odds(b[0], b[1], b[2], b[3]), NO);
        }
        for (int hp : new int[] {0, 1, 10, 11}) {
            Due.isNot("hp " + hp, x.odds(0, 1, hp, 0), NO);
            Due.isNot("the last seed, 30", x.odds(99999, 30, hp, 1), NO);
        }
    }

    private static void image() {
        Due.of("Promise 45", "AN IMAGE is kept: how many HATS.");
        HatDownTheStreet x = new HatDownTheStreet();
        for (int hats = 0; hats <= 4; hats++) {
            Due.is("hats", x.image(), hats);
            Due.is("again", x.image(), hats);
            x.come(hats, 1, 1);
            x.hat(CAP, 31, 1);
        }
        Due.is("back to four", x.back(), 4);
        Due.is("one is had", x.does(0, 0, 31) + x.run(0, 0), 0);
        Due.is("three", x.image(), 3);
        // The last image is kept, not the first.
        Due.is("back to three", x.back(), 3);
        Due.is("the catcher where it was then", x.does(0, 0, 0), 31);
    }

    private static HatDownTheStreet furnished() {
        HatDownTheStreet x = new HatDownTheStreet();
        Due.walls(x, 31);
        Due.puddles(x, 5);
        Due.eddies(x, 6);
        x.blow(0, 0, 9);
        x.blow(3, 2, 7);
        x.blow(23, 1, 8);
        x.hat(13, 4, 2);
        x.hat(47, 9, 1);
        x.come(7, 3, 2);
        Due.text(x, "goes 5;turns 1;worth 1;");
        x.force(1);
        return x;
    }

    private static void isAsKept(HatDownTheStreet x, int texts, int tape) {
        int[] counts = {2, 1, 1 << 31, 32, 64, texts, 1, tape};
        for (int what = 0; what < 8; what++) {
            Due.is("count(" + what + ")", x.count(what), counts[what]);
        }
        for (int second = 0; second < 24; second++) {
            Due.is("wind(" + second + ")", x.wind(second), second == 0 ? 9 : second == 3 ? 27 : second == 23 ? 18 : 40);
        }
        int[][] hats = {{4, 2, 1, 3}, {9, 1, 4, 7}};
        for (int h = 0; h < 2; h++) {
            for (int what = 0; what < 4; what++) {
                Due.is("told(" + h + ", " + what + ")", x.told(h, what), hats[h][what]);
            }
        }
        Due.is("no hat 2", x.told(2, 0), -5);
        Due.is("the catcher's square", x.does(0, 0, 8), 7);
        Due.is("its pace", x.does(0, 1, 1), 3);
        Due.is("its reach", x.does(0, 2, 1), 2);
        Due.is("no catcher 1", x.does(1, 0, 8), -5);
    }

    private static void changeAll(HatDownTheStreet x) {
        x.street(0, 31, 0);
        x.street(1, 5, 0);
        x.street(2, 6, 0);
        x.street(0, 30, 1);
        x.street(1, 29, 1);
        x.street(2, 28, 1);
        x.blow(0, 4, 0);
        x.blow(1, 1, 1);
        x.blow(3, 1, 1);
        x.blow(23, 0, 0);
        x.force(0);
        x.does(0, 0, 31);
        x.does(0, 1, 0);
        x.does(0, 2, 0);
        x.come(1, 1, 1);
        x.set(0, 0, 0);
        x.set(0, 1, 0);
        x.set(1, 0, 0);
        x.set(1, 1, 0);
        x.hat(0, 3, 0);
        x.does(1, 0, 0);
        x.run(0, 1);
    }

    private static void back() {
        Due.of("Promise 46", "All that it keeps is as in THE IMAGE: how many HATS there are. STATE: there is none.");
        HatDownTheStreet x = furnished();
        Due.is("there is none", x.back(), STATE);
        Due.is("and nothing changed", x.count(0), 2);
        Due.is("two hats", x.image(), 2);
        changeAll(x);
        Due.is("two hats again", x.back(), 2);
        isAsKept(x, 2, 0);
        changeAll(x);
        Due.is("and again: what changed behind it is not in the image", x.back(), 2);
        isAsKept(x, 2, 0);
        x.pass(24);
        x.hat(0, 0, 0);
        Due.is("and again, behind a day", x.back(), 2);
        isAsKept(x, 2, 0);
        x = new HatDownTheStreet();
        Due.is("an empty street", x.image(), 0);
        changeAll(x);
        x.hat(0, 0, 0);
        Due.is("no hats", x.back(), 0);
        for (int what = 0; what < 8; what++) {
            Due.is("count(" + what + ")", x.count(what), what == 5 ? 1 : 0);
        }
        for (int second = 0; second < 24; second++) {
            Due.is("no gust", x.wind(second), 40);
        }
        // Nothing is left of those that had these numbers.
        Due.is("the first hat anew", x.hat(0, 0, 0), 0);
        Due.is("and catcher", x.come(0, 0, 0), 0);
        for (int what = 0; what < 4; what++) {
            Due.is("told(0, " + what + ")", x.told(0, what), 0);
        }
        for (int what = 0; what < 3; what++) {
            Due.is("does(0, " + what + ", 1)", x.does(0, what, 1), 0);
        }
    }

    /** Hats and catchers that come to the numbers of others, which were in everything more. */
    private static void numbersAnew() {
        Due.of("Promise 46", "All that it keeps is as in THE IMAGE: how many HATS there are. STATE: there is none.");
        HatDownTheStreet x = new HatDownTheStreet();
        x.image();
        for (int i = 0; i < 4; i++) {
            x.hat(59, 31, 2);
            x.come(31, 4, 3);
        }
        Due.is("none", x.back(), 0);
        for (int i = 0; i < 4; i++) {
            Due.is("a hat", x.hat(0, 0, 0), i);
            Due.is("a catcher", x.come(0, 0, 0), i);
            for (int what = 0; what < 4; what++) {
                Due.is("told(" + i + ", " + what + ")", x.told(i, what), 0);
            }
            for (int what = 0; what < 3; what++) {
                Due.is("does(" + i + ", " + what + ", 0)", x.does(i, what, 0), 0);
            }
        }
    }

    private static void backAgain() {
        Due.of("Promise 46", "All that it keeps is as in THE IMAGE: how many HATS there are. STATE: there is none.");
        // A hat that was had comes back, of its kind, though another one took its number.
        HatDownTheStreet x = new HatDownTheStreet();
        x.hat(36, 12, 1);
        x.hat(15, 13, 2);
        x.come(12, 0, 0);
        x.image();
        Due.is("had", x.run(0, 0), 0);
        x.hat(59, 1, 0);
        x.hat(59, 2, 0);
        x.hat(59, 3, 0);
        x.come(9, 4, 3);
        x.come(9, 4, 3);
        x.come(9, 4, 3);
        Due.is("four are full", x.hat(0, 0, 0), HatDownTheStreet.FULL);
        Due.is("back", x.back(), 2);
        Due.is("its kind", x.told(0, 2), 3);
        Due.is("its more", x.told(0, 3), 6);
        Due.is("the other's kind", x.told(1, 2), 1);
        Due.is("where it was", x.told(1, 0), 13);
        Due.is("one catcher", x.count(1), 1);
        Due.is("two more have room", x.hat(0, 0, 0) + 10 * x.hat(0, 0, 0), 32);
        Due.is("three more have room", x.come(0, 0, 0) + 10 * x.come(0, 0, 0) + 100 * x.come(0, 0, 0), 321);
        Due.is("an image of four", x.image(), 4);
        Due.is("back to four", x.back(), 4);
    }

    private static void fourAndFour() {
        Due.of("Terms, AN IMAGE", "AN IMAGE keeps WALLS, PUDDLES, EDDIES, GUSTS, HATS, all of CATCHERS, how many there are of both, THE LAW.");
        HatDownTheStreet x = new HatDownTheStreet();
        for (int i = 0; i < 4; i++) {
            x.hat(11 * (i + 1), 28 + i, i % 3);
            x.come(i, i + 1, 3 - i);
        }
        Due.is("four", x.image(), 4);
        x.pass(24);
        for (int i = 0; i < 4; i++) {
            x.set(i, 0, 12);
            x.set(i, 1, (i + 1) % 3);
            x.does(i, 0, 31 - i);
            x.does(i, 1, 0);
            x.does(i, 2, i);
        }
        Due.is("four again", x.back(), 4);
        for (int i = 0; i < 4; i++) {
            Due.is("square of hat " + i, x.told(i, 0), 28 + i);
            Due.is("how it lies", x.told(i, 1), i % 3);
            Due.is("its kind", x.told(i, 2), i + 1);
            Due.is("its more", x.told(i, 3), i + 1);
            Due.is("square of catcher " + i, x.does(i, 0, 9), i);
            Due.is("its pace", x.does(i, 1, 2), i + 1);
            Due.is("its reach", x.does(i, 2, 2), 3 - i);
        }
        for (int second = 0; second < 24; second++) {
            x.blow(second, second % 4, second % 10);
        }
        for (int c = 0; c < 32; c++) {
            x.street(1, c, c % 2);
            x.street(2, c, c / 2 % 2);
        }
        int[] marks = {x.count(3), x.count(4)};
        x.image();
        for (int second = 0; second < 24; second++) {
            x.blow(second, 4, 9 - second % 10);
        }
        for (int c = 0; c < 32; c++) {
            x.street(1, c, 0);
            x.street(2, c, 1);
        }
        x.back();
        for (int second = 0; second < 24; second++) {
            Due.is("each gust", x.wind(second), 10 * (second % 4) + second % 10);
        }
        Due.is("each puddle", x.count(3), marks[0]);
        Due.is("each eddy", x.count(4), marks[1]);
        Due.is("every second square", marks[0], 0xAAAAAAAA);
    }

    private static void whatNoImageKeeps() {
        Due.of("Terms, AN IMAGE", "AN IMAGE keeps WALLS, PUDDLES, EDDIES, GUSTS, HATS, all of CATCHERS, how many there are of both, THE LAW.");
        HatDownTheStreet x = furnished();
        x.image();
        Due.text(x, "goes 6;turns 2;worth 7;");
        Due.text(x, "goes 7;turns 2;worth 7;");
        x.force(2);
        x.feed(2, 32, 32, 0, 0, 0);
        Due.sheet(x, 0, 4, 5, 6);
        Due.is("back", x.back(), 2);
        isAsKept(x, 4, 2);
        Due.is("a sheet stays", x.cell(0, 2, 6), 1);
        Due.is("of its size", x.cell(0, 3, 0), -12);
        x.set(0, 0, 4);
        Due.is("with its numbers", x.gustsBy(0, 2, 0, 1), 0);
        Due.is("a text stays", x.force(2), 1);
        Due.is("as it is", x.asks(0, 0, 0, 0, 0), 6);
        Due.is("the next one is behind it", Due.text(x, "goes 7;turns 2;worth 7;"), 4);
        Due.is("the tape was behind it", x.count(7), 0);
        // THE LAW of an image is any text.
        for (int t = 5; t >= 0; t--) {
            while (x.count(5) < 6) {
                Due.text(x, "goes 1;turns 1;worth 1;");
            }
            x.force(t);
            x.image();
            x.force(5 - t);
            x.back();
            Due.is("THE LAW of the image", x.count(6), t);
        }
        // A sheet, a text and the tape that were there as the image was kept don't come back either.
        x = furnished();
        x.feed(2, 32, 32, 0, 0, 0);
        Due.sheet(x, 1, 4);
        x.image();
        x.sheet(1, -1, 0);
        Due.is("the tape is read", x.text(), -102);
        x.back();
        Due.is("the sheet is missing", x.cell(1, 0, 0), -11);
        Due.is("the tape is empty", x.count(7), 0);
    }
}
