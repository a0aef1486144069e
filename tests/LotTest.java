/** Promises 43 to 46: days by lot, images. */
public final class LotTest {
    public static void main(String[] args) {
        drawn();
        odds();
        image();
        Due.end();
    }

    /** The same day, blown by hand. */
    private static void blowDrawn(HatDownTheStreet x, int seed) {
        long lot = seed + 1;
        for (int second = 0; second < 24; second++) {
            lot = lot * 48271 % 2147483647;
            x.blow(second, (int) (lot % 5), (int) (lot / 5 % 10));
        }
    }

    private static void drawn() {
        HatDownTheStreet x = new HatDownTheStreet();
        Due.is("43: no hat", x.drawn(0, 0, 0), -5);
        Due.is("43: hat ahead of seed", x.drawn(-1, 0, 0), -5);
        HatDownTheStreet y = new HatDownTheStreet();
        Due.walls(x, 4, 18);
        Due.walls(y, 4, 18);
        for (int kind = 0; kind < 4; kind++) {
            x.hat(10 * kind + 3, 9 + kind, 2);
            y.hat(10 * kind + 3, 9 + kind, 2);
        }
        for (int seed : new int[] {0, 1, 7, 4711, 99998, 99999}) {
            blowDrawn(y, seed);
            for (int h = 0; h < 4; h++) {
                for (int n = 0; n <= 24; n += 4) {
                    Due.is("43: drawn(" + seed + ", " + h + ", " + n + ")", x.drawn(seed, h, n), y.at(h, n, 0));
                }
            }
        }
        // Seed 0: the first lot is 48271: way 1, strength 4.
        Due.is("43: by seed 0", x.drawn(0, 0, 1), 13);
        Due.is("43: gusts stay", x.wind(0), 40);
        Due.is("43: seed below", x.drawn(-1, 0, 0), -7);
        Due.is("43: seed above", x.drawn(100000, 0, 0), -7);
        Due.is("43: n below", x.drawn(0, 0, -1), -7);
        Due.is("43: n above", x.drawn(0, 0, 25), -7);
        Due.is("43: hat above", x.drawn(0, 4, 0), -5);
        Due.is("43: hat below", x.drawn(0, -1, 0), -5);
    }

    private static void odds() {
        HatDownTheStreet x = new HatDownTheStreet();
        Due.is("44: no hat", x.odds(0, 1, 0, 0), HatDownTheStreet.NO);
        x.hat(0, 9, 1);
        x.hat(25, 31, 1);
        Due.is("44: no catcher", x.odds(0, 1, 0, 0), HatDownTheStreet.NO);
        x.come(0, 0, 0);
        x.come(31, 0, 0);
        for (int hp : new int[] {0, 1, 10, 11}) {
            for (int seeds : new int[] {1, 6, 24, 30}) {
                for (int seed : new int[] {0, 500, 99999}) {
                    HatDownTheStreet y = new HatDownTheStreet();
                    y.hat(0, 9, 1);
                    y.hat(25, 31, 1);
                    y.come(0, 0, 0);
                    y.come(31, 0, 0);
                    long above = 0;
                    for (int i = 0; i < seeds; i++) {
                        blowDrawn(y, seed + i);
                        above += y.caught(hp / 10, hp % 10) >= 0 ? 1 : 0;
                    }
                    long a = x.odds(seed, seeds, hp, 0);
                    long b = x.odds(seed, seeds, hp, 1);
                    Due.is("44: odds of " + hp + " in " + seeds, a * seeds, above * b);
                    Due.is("44: lowest terms", gcd(a, b), 1);
                    Due.holds("44: below the line it is above 0", b > 0);
                }
            }
        }
        Due.is("44: it is there at once", x.odds(3, 30, 11, 0), 1);
        Due.is("44: always", x.odds(3, 30, 11, 1), 1);
        Due.walls(x, 1, 8);
        Due.is("44: never", x.odds(3, 30, 0, 0), 0);
        Due.is("44: of 1", x.odds(3, 30, 0, 1), 1);
        int[][] bad = {
            {-1, 1, 0, 0}, {100000, 1, 0, 0}, {0, 0, 0, 0}, {0, 31, 0, 0}, {0, 1, -1, 0}, {0, 1, 2, 0}, {0, 1, 20, 0},
            {0, 1, 19, 0}, {0, 1, -10, 0}, {0, 1, 0, -1}, {0, 1, 0, 2}, {0, 1, Integer.MIN_VALUE, 0},
            {0, 1, Integer.MAX_VALUE, 0}};
        for (int[] b : bad) {
            Due.is("44: none such", x.odds(b[0], b[1], b[2], b[3]), HatDownTheStreet.NO);
        }
        Due.is("44: gusts stay", x.wind(0), 40);
    }

    private static long gcd(long a, long b) {
        return b == 0 ? a : gcd(b, a % b);
    }

    private static void image() {
        HatDownTheStreet x = new HatDownTheStreet();
        Due.is("46: there is none", x.back(), HatDownTheStreet.STATE);
        Due.is("45: no hats", x.image(), 0);
        x.hat(0, 0, 0);
        Due.is("46: no hats", x.back(), 0);
        Due.is("46: none indeed", x.count(0), 0);
        Due.walls(x, 31);
        Due.puddles(x, 5);
        Due.eddies(x, 6);
        x.blow(3, 2, 7);
        x.blow(23, 1, 8);
        x.hat(13, 4, 2);
        x.hat(47, 9, 1);
        x.come(7, 3, 2);
        Due.text(x, "goes 5;turns 1;worth 1;");
        x.force(1);
        Due.is("45: two hats", x.image(), 2);
        x.street(0, 31, 0);
        x.street(1, 5, 0);
        x.street(2, 6, 0);
        x.street(0, 30, 1);
        x.blow(3, 1, 1);
        x.blow(23, 0, 0);
        x.force(0);
        x.does(0, 0, 31);
        x.does(0, 1, 0);
        x.does(0, 2, 0);
        x.come(1, 1, 1);
        x.set(0, 0, 0);
        x.set(0, 1, 0);
        x.set(1, 0, 0);
        x.hat(0, 3, 0);
        x.does(1, 0, 0);
        Due.is("46: a hat is had meanwhile", x.run(0, 1), 0);
        Due.text(x, "goes 6;turns 1;worth 1;");
        x.feed(2, 32, 32, 0, 0, 0);
        x.sheet(0, 0, 3);
        for (int times = 0; times < 2; times++) {
            Due.is("46: two hats again", x.back(), 2);
            int[] counts = {2, 1, 1 << 31, 32, 64, 3, 1, 2};
            for (int what = 0; what < 8; what++) {
                Due.is("46: count(" + what + ")", x.count(what), counts[what]);
            }
            Due.is("46: gusts", x.wind(3), 27);
            Due.is("46: the last gust", x.wind(23), 18);
            int[][] hats = {{4, 2, 1, 3}, {9, 1, 4, 7}};
            for (int h = 0; h < 2; h++) {
                for (int what = 0; what < 4; what++) {
                    Due.is("46: told(" + h + ", " + what + ")", x.told(h, what), hats[h][what]);
                }
            }
            Due.is("46: the catcher's square", x.does(0, 0, 8), 7);
            Due.is("46: pace", x.does(0, 1, 1), 3);
            Due.is("46: reach", x.does(0, 2, 1), 2);
            x.pass(24);
        }
        Due.is("46: a sheet stays", x.cell(0, 2, 1), 1);
        Due.is("45: a new image", x.image(), 2);
        x.does(0, 1, 4);
        x.back();
        Due.is("45: is kept instead", x.does(0, 1, 1), 1);
    }
}
