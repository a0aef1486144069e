/** Promises 47 to 51: the host. */
public final class HostTest {
    public static void main(String[] args) {
        sheet();
        cell();
        copy();
        gustsBy();
        taken();
        Due.end();
    }

    private static void sheet() {
        HatDownTheStreet x = new HatDownTheStreet();
        for (int s = 0; s < 4; s++) {
            for (int sort = 0; sort <= 2; sort++) {
                Due.is("47: none", x.sheet(s, sort, 0), 1);
                Due.is("47: no place", x.cell(s, 0, 0), -12);
                Due.is("47: 40", x.sheet(s, sort, 40), 1);
                Due.is("47: the last place", x.cell(s, 39, 7), 1);
                Due.is("47: no more", x.cell(s, 40, 0), -12);
                Due.is("47: 41", x.sheet(s, sort, 41), HatDownTheStreet.BAD);
                Due.is("47: below 0", x.sheet(s, sort, -1), -14);
                Due.is("47: it stays", x.cell(s, 39, 7), 1);
            }
            Due.is("47: missing", x.sheet(s, -1, 41), 1);
            Due.is("47: nothing there", x.cell(s, 0, 0), -11);
            Due.is("47: missing still", x.sheet(s, -1, -41), 1);
        }
        Due.is("47: sheet below", x.sheet(-1, 0, 0), HatDownTheStreet.BAD);
        Due.is("47: sheet above", x.sheet(4, -1, 0), HatDownTheStreet.BAD);
        Due.is("47: sheet ahead of size", x.sheet(4, 0, -1), HatDownTheStreet.BAD);
        Due.is("47: sort below", x.sheet(0, -2, 0), HatDownTheStreet.BAD);
        Due.is("47: sort above", x.sheet(0, 3, 0), HatDownTheStreet.BAD);
        Due.is("47: sort ahead of size", x.sheet(0, 3, -1), HatDownTheStreet.BAD);
        // All 0 again, also what stood there.
        x.hat(0, 0, 0);
        Due.sheet(x, 0, 9, 9, 9);
        x.sheet(0, 2, 3);
        Due.is("47: all 0", x.judge(0, 0), -1);
    }

    private static void cell() {
        HatDownTheStreet x = new HatDownTheStreet();
        Due.is("48: sheet below", x.cell(-1, 0, 0), HatDownTheStreet.BAD);
        Due.is("48: sheet above", x.cell(4, 0, 0), HatDownTheStreet.BAD);
        Due.is("48: nothing there", x.cell(0, -1, 0), -11);
        int[] numbers = {5, -1, 261, 65541, 1 << 30 | 5};
        boolean[][] isFive = {{true, false, true, true, true}, {true, false, false, true, true}, {true, false, false, false, false}};
        x.hat(0, 5, 0);
        for (int sort = 0; sort <= 2; sort++) {
            x.sheet(0, sort, 1);
            Due.is("48: place below", x.cell(0, -1, 0), -12);
            Due.is("48: place above", x.cell(0, 1, 0), -12);
            Due.is("48: far above", x.cell(0, Integer.MAX_VALUE, 0), -12);
            for (int i = 0; i < numbers.length; i++) {
                Due.is("48: it becomes", x.cell(0, 0, numbers[i]), 1);
                Due.is("48: " + numbers[i] + " of sort " + sort, x.judge(0, 0), isFive[sort][i] ? -1 : 0);
            }
        }
    }

    private static void copy() {
        HatDownTheStreet x = new HatDownTheStreet();
        Due.is("49: source", x.copy(4, 0, 0, 0, 0), HatDownTheStreet.BAD);
        Due.is("49: source below", x.copy(-1, 0, 0, 0, 0), HatDownTheStreet.BAD);
        Due.is("49: target", x.copy(0, 0, 4, 0, 0), HatDownTheStreet.BAD);
        Due.is("49: target below", x.copy(0, 0, -1, 0, 0), HatDownTheStreet.BAD);
        Due.is("49: both missing", x.copy(0, 0, 1, 0, 0), -11);
        x.sheet(0, 0, 5);
        Due.is("49: target missing", x.copy(0, -1, 1, 0, 0), -11);
        Due.is("49: source missing", x.copy(1, 0, 0, 0, -1), -11);
        x.sheet(1, 1, 5);
        Due.is("49: unlike sorts", x.copy(0, 9, 1, 0, -1), -13);
        Due.sheet(x, 0, 1, 2, 3, 4, 5);
        Due.sheet(x, 1, 0, 0, 0, 0);
        int max = Integer.MAX_VALUE;
        int[][] outside = {
            {-1, 0, 1}, {0, -1, 1}, {0, 0, -1}, {3, 0, 3}, {0, 2, 3}, {6, 0, 0}, {0, 5, 0}, {0, 0, 5}, {max, 0, 1},
            {0, max, 1}, {0, 0, max}, {max, max, max}, {1, 0, max}, {0, 0, Integer.MIN_VALUE}, {Integer.MIN_VALUE, 0, 1}};
        for (int[] o : outside) {
            Due.is("49: outside", x.copy(0, o[0], 1, o[1], o[2]), -12);
        }
        Due.is("49: three", x.copy(0, 2, 1, 1, 3), 3);
        isSheet(x, "49: they came", 1, 0, 3, 4, 5);
        Due.is("49: none, at the end", x.copy(0, 5, 1, 4, 0), 0);
        Due.is("49: four to the right", x.copy(0, 0, 0, 1, 4), 4);
        isSheet(x, "49: as they were", 0, 1, 1, 2, 3, 4);
        Due.sheet(x, 0, 1, 2, 3, 4, 5);
        Due.is("49: four to the left", x.copy(0, 1, 0, 0, 4), 4);
        isSheet(x, "49: as they were", 0, 2, 3, 4, 5, 5);
    }

    /** What a sheet of ints holds, seen by a cap that a law leads from square to square. */
    private static void isSheet(HatDownTheStreet x, String what, int s, int... numbers) {
        for (int i = 0; i < numbers.length; i++) {
            x.sheet(3, 2, 1);
            x.copy(s, i, 3, 0, 1);
            x.hat(0, numbers[i], 0);
            Due.is(what + " at " + i, x.judge(3, x.count(0) - 1), -1);
            x.come(numbers[i], 0, 0);
            x.does(0, 0, numbers[i]);
            x.run(x.count(0) - 1, 0);
        }
        Due.is(what + ": size", x.cell(s, numbers.length, 0), -12);
    }

    private static void gustsBy() {
        HatDownTheStreet x = new HatDownTheStreet();
        int[][] bad = {{-1, 0, 0, 0}, {4, 0, 0, 0}, {0, -1, 0, 0}, {0, 3, 0, 0}, {0, 0, 0, -1}, {0, 0, 0, 14}};
        for (int[] b : bad) {
            Due.is("50: bad", x.gustsBy(b[0], b[1], b[2], b[3]), HatDownTheStreet.BAD);
        }
        Due.is("50: nothing there", x.gustsBy(0, 0, 0, 0), -11);
        x.sheet(0, 1, 40);
        Due.is("50: another sort", x.gustsBy(0, 0, -1, 1), -13);
        Due.is("50: n ahead of sort", x.gustsBy(0, 0, 0, 14), HatDownTheStreet.BAD);
        int[] numbers = {9, 0, 1, 2, 24, 0, 0, 3, 5, 0, 4, 2, 10, 23, 3, 9, 5, 4};
        for (int i = 0; i < numbers.length; i++) {
            x.cell(0, i, numbers[i]);
        }
        Due.is("50: none", x.gustsBy(0, 1, 0, 0), 0);
        Due.is("50: of six one is left out", x.gustsBy(0, 1, 1, 1), 1);
        Due.is("50: blows so", x.wind(0), 12);
        Due.is("50: others are left out", x.gustsBy(0, 1, 1, 5), 2);
        Due.is("50: a way too great", x.wind(3), 40);
        Due.is("50: a strength too great", x.wind(4), 40);
        Due.is("50: the last", x.wind(23), 39);
        Due.is("50: as of blow", x.wind(1), 40);
        // Behind the five stand 5, 4, 0 and seven times 0, 0, 0.
        Due.is("50: all 13", x.gustsBy(0, 1, 1, 13), 2 + 1 + 7);
        Due.is("50: the last of a second stays", x.wind(0), 0);
        Due.is("50: place below", x.gustsBy(0, 1, -1, 1), -12);
        Due.is("50: place above", x.gustsBy(0, 1, 40, 1), -12);
        Due.is("50: far above", x.gustsBy(0, 1, Integer.MAX_VALUE, 13), -12);
        Due.is("50: far below", x.gustsBy(0, 1, Integer.MIN_VALUE, 13), -12);
        Due.is("50: none of nowhere", x.gustsBy(0, 1, 99, 0), 0);
        Due.sheet(x, 1, 7, 2, 3, 8, 1, 1, 9, 1);
        Due.is("50: a place outside", x.gustsBy(1, 2, 0, 3), -12);
        Due.is("50: what stood ahead blows", x.wind(7), 23);
        Due.is("50: that, too", x.wind(8), 11);
        Due.is("50: not what is cut", x.wind(9), 40);
        x.sheet(2, 0, 3);
        x.cell(2, 0, 256 + 10);
        x.cell(2, 1, 3);
        x.cell(2, 2, -1);
        Due.is("50: of bytes -1 is below 0", x.gustsBy(2, 0, 0, 1), 0);
        x.cell(2, 2, 256 + 9);
        Due.is("50: of bytes the lowest 8 bits", x.gustsBy(2, 0, 0, 1), 1);
        Due.is("50: blows so", x.wind(10), 39);
    }

    private static void taken() {
        HatDownTheStreet x = new HatDownTheStreet();
        Due.is("51: kind below", x.taken(-1, -1), HatDownTheStreet.BAD);
        Due.is("51: kind above", x.taken(36, 7), HatDownTheStreet.BAD);
        Due.is("51: place below", x.taken(-1, 0), -12);
        Due.is("51: place above", x.taken(36, 6), -12);
        for (int i = 0; i < 36; i++) {
            Due.is("51: nothing lies there", x.taken(i, i % 7), -11);
        }
        Due.walls(x, 31, 30);
        Due.puddles(x, 0, 31);
        Due.eddies(x, 1, 31);
        Due.is("51: a puddle", x.taken(0, 6), 1);
        Due.is("51: an eddy", x.taken(1, 6), 0);
        Due.is("51: both, in a wall", x.taken(31, 6), 1);
        Due.is("51: a wall alone is nothing", x.taken(30, 6), -11);
        boolean[][] isOne = {
            {true, false, false, false, false, false}, {true, true, false, false, false, false},
            {true, false, true, false, false, false}, {true, true, false, true, false, false},
            {true, false, true, false, true, false}, {true, false, false, false, false, true}};
        for (int kind = 0; kind < 6; kind++) {
            Due.is("51: a square is no hat", x.taken(0, kind), -13);
            HatDownTheStreet y = new HatDownTheStreet();
            y.hat(0, 0, 0);
            y.hat(10 * kind, 0, 0);
            for (int wanted = 0; wanted < 6; wanted++) {
                Due.is("51: " + kind + " for " + wanted, y.taken(33, wanted), isOne[kind][wanted] ? 1 : -13);
            }
            Due.is("51: a hat is no square", y.taken(33, 6), -13);
            Due.is("51: its number", y.taken(32, 0), 0);
            Due.is("51: no third", y.taken(34, 0), -11);
        }
    }
}
