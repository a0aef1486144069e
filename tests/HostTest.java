/** Promises 47 to 51: the host. */
public final class HostTest {
    private static final int BAD = HatDownTheStreet.BAD;
    private static final int LEAST = Integer.MIN_VALUE, MOST = Integer.MAX_VALUE;
    private static final int[] NO_SHEET = {-1, 4, LEAST, MOST};

    public static void main(String[] args) {
        sheet();
        sheetRefused();
        allNull();
        cell();
        cellRefused();
        copy();
        copyOntoItself();
        copyRefused();
        copyOutside();
        gustsBy();
        gustsByEdges();
        gustsByBits();
        gustsByOutside();
        gustsByRefused();
        takenSquares();
        takenHats();
        takenRefused();
        Due.end();
    }

    /** What a sheet holds: a hat in each square that it tells is there behind 0. */
    private static void holds(HatDownTheStreet x, String what, int s, int sort, int... numbers) {
        for (int i = 0; i < numbers.length; i++) {
            x.sheet(3, sort, 1);
            Due.is(what + ", number " + i, x.copy(s, i, 3, 0, 1), 1);
            x.set(0, 0, numbers[i]);
            Due.is(what + " at " + i, x.judge(3, 0), -1);
        }
        Due.is(what + ": size", x.cell(s, numbers.length, 0), -12);
    }

    private static HatDownTheStreet withHat() {
        HatDownTheStreet x = new HatDownTheStreet();
        x.hat(20, 0, 0);
        return x;
    }

    private static void sheet() {
        Due.of("Promise 47", "A SHEET becomes a row of n of a sort, all 0, or missing (sort -1: n does not matter): 1.");
        HatDownTheStreet x = new HatDownTheStreet();
        for (int s = 0; s < 4; s++) {
            for (int sort = 0; sort <= 2; sort++) {
                Due.is("none", x.sheet(s, sort, 0), 1);
                Due.is("no place", x.cell(s, 0, 0), -12);
                Due.is("one", x.sheet(s, sort, 1), 1);
                Due.is("a place", x.cell(s, 0, 0), 1);
                Due.is("no second one", x.cell(s, 1, 0), -12);
                Due.is("40", x.sheet(s, sort, 40), 1);
                Due.is("the last place", x.cell(s, 39, 7), 1);
                Due.is("no more", x.cell(s, 40, 0), -12);
            }
            for (int n : new int[] {0, 41, 40, -1, -41, LEAST, MOST}) {
                x.sheet(s, 0, 5);
                Due.is("missing, n " + n, x.sheet(s, -1, n), 1);
                Due.is("nothing there", x.cell(s, 0, 0), -11);
                Due.is("missing still", x.sheet(s, -1, n), 1);
            }
        }
    }

    private static void sheetRefused() {
        Due.of("Promise 47", "BAD: SHEET, sort, n above 40; -14.");
        HatDownTheStreet x = new HatDownTheStreet();
        Due.is("six shorts", x.sheet(0, 1, 6), 1);
        for (int n : new int[] {-1, -40, LEAST}) {
            for (int sort = 0; sort <= 2; sort++) {
                Due.is("size " + n, x.sheet(0, sort, n), -14);
            }
            for (int s : NO_SHEET) {
                Due.is("sheet ahead of size", x.sheet(s, 0, n), BAD);
                Due.is("of a missing one, too", x.sheet(s, -1, n), BAD);
            }
            for (int sort : new int[] {-2, 3, LEAST, MOST}) {
                Due.is("sort ahead of size", x.sheet(0, sort, n), BAD);
            }
        }
        for (int n : new int[] {41, MOST}) {
            for (int sort = 0; sort <= 2; sort++) {
                Due.is("size " + n, x.sheet(0, sort, n), BAD);
            }
        }
        for (int sort : new int[] {-2, 3, LEAST, MOST}) {
            Due.is("sort " + sort, x.sheet(0, sort, 5), BAD);
        }
        Due.is("it stays: six", x.cell(0, 5, 0) + x.cell(0, 6, 0), 1 - 12);
        Due.is("shorts", x.gustsBy(0, 1, 0, 0), 0);
    }

    private static void allNull() {
        Due.of("Promise 47", "A SHEET becomes a row of n of a sort, all 0, or missing (sort -1: n does not matter): 1.");
        for (int sort = 0; sort <= 2; sort++) {
            HatDownTheStreet x = withHat();
            Due.sheetOf(x, 0, sort, 9, 9, 9, 9);
            x.sheet(0, sort, 4);
            Due.is("all 0", x.judge(0, 0), -1);
            Due.sheetOf(x, 0, sort, 9, 9, 9, 9);
            x.sheet(0, -1, 0);
            x.sheet(0, sort, 4);
            Due.is("all 0, as it was missing", x.judge(0, 0), -1);
            Due.sheetOf(x, 0, sort, 9, 9, 9, 9);
            x.sheet(0, (sort + 1) % 3, 2);
            x.sheet(0, sort, 25);
            Due.is("all 0, as it was shorter", x.judge(0, 0), -1);
            // Another sheet stays.
            Due.sheetOf(x, 1, sort, 9);
            x.sheet(0, sort, 4);
            Due.is("another one stays", x.judge(1, 0), 0);
        }
    }

    private static void cell() {
        Due.of("Promise 48", "Number i of a SHEET becomes v (of bytes, shorts its lowest 8, 16 bits): 1.");
        int[] numbers = {5, -1, 261, 5 - 256, 5 + 128, 65541, 5 - 65536, 5 + 32768, 1 << 30 | 5, LEAST | 5};
        boolean[][] isFive = {
            {true, false, true, true, false, true, true, true, true, true},
            {true, false, false, false, false, true, true, false, true, true},
            {true, false, false, false, false, false, false, false, false, false}};
        for (int sort = 0; sort <= 2; sort++) {
            HatDownTheStreet x = new HatDownTheStreet();
            x.hat(0, 5, 0);
            x.sheet(0, sort, 1);
            for (int i = 0; i < numbers.length; i++) {
                Due.is("it becomes", x.cell(0, 0, numbers[i]), 1);
                Due.is(numbers[i] + " of sort " + sort, x.judge(0, 0), isFive[sort][i] ? -1 : 0);
            }
        }
        HatDownTheStreet x = withHat();
        Due.sheet(x, 0, 1, 2, 3, 4);
        Due.is("one of four", x.cell(0, 2, 9), 1);
        holds(x, "the others stay", 0, 2, 1, 2, 9, 4);
    }

    private static void cellRefused() {
        Due.of("Promise 48", "BAD: SHEET; -11; -12.");
        HatDownTheStreet x = new HatDownTheStreet();
        for (int s : NO_SHEET) {
            Due.is("sheet " + s, x.cell(s, 0, 0), BAD);
            Due.is("sheet ahead of place", x.cell(s, -1, 0), BAD);
        }
        for (int s = 0; s < 4; s++) {
            Due.is("nothing there", x.cell(s, 0, 0), -11);
            Due.is("ahead of place below", x.cell(s, -1, 0), -11);
            Due.is("ahead of place above", x.cell(s, 40, 0), -11);
            for (int sort = 0; sort <= 2; sort++) {
                x.sheet(s, sort, 7);
                for (int i : new int[] {-1, 7, 39, 40, LEAST, MOST}) {
                    Due.is("place " + i, x.cell(s, i, 0), -12);
                }
                Due.is("the first", x.cell(s, 0, 0), 1);
                Due.is("the last", x.cell(s, 6, 0), 1);
            }
            x.sheet(s, -1, 0);
        }
    }

    private static void copy() {
        Due.of("Promise 49", "n numbers of a SHEET, from i on, come to another one's (or its own) place j (as they were): n.");
        for (int sort = 0; sort <= 2; sort++) {
            HatDownTheStreet x = withHat();
            Due.sheetOf(x, 0, sort, 1, 2, 3, 4, 5);
            Due.sheetOf(x, 1, sort, 0, 0, 0, 0);
            Due.is("three", x.copy(0, 2, 1, 1, 3), 3);
            holds(x, "they came", 1, sort, 0, 3, 4, 5);
            holds(x, "the source stays", 0, sort, 1, 2, 3, 4, 5);
            Due.is("none", x.copy(0, 0, 1, 0, 0), 0);
            Due.is("one to the first place", x.copy(0, 4, 1, 0, 1), 1);
            Due.is("one to the last place", x.copy(0, 0, 1, 3, 1), 1);
            holds(x, "they came, too", 1, sort, 5, 3, 4, 1);
            Due.is("all four", x.copy(1, 0, 0, 0, 4), 4);
            holds(x, "all came", 0, sort, 5, 3, 4, 1, 5);
        }
        HatDownTheStreet x = new HatDownTheStreet();
        x.sheet(0, 0, 40);
        x.sheet(1, 0, 40);
        Due.is("all 40", x.copy(0, 0, 1, 0, 40), 40);
        Due.is("41", x.copy(0, 0, 1, 0, 41), -12);
    }

    private static void copyOntoItself() {
        Due.of("Promise 49", "come to another one's (or its own) place j (as they were): n.");
        HatDownTheStreet x = withHat();
        Due.sheet(x, 0, 1, 2, 3, 4, 5);
        Due.is("four to the right", x.copy(0, 0, 0, 1, 4), 4);
        holds(x, "as they were", 0, 2, 1, 1, 2, 3, 4);
        Due.sheet(x, 0, 1, 2, 3, 4, 5);
        Due.is("four to the left", x.copy(0, 1, 0, 0, 4), 4);
        holds(x, "as they were", 0, 2, 2, 3, 4, 5, 5);
        Due.is("onto themselves", x.copy(0, 1, 0, 1, 3), 3);
        holds(x, "as they were", 0, 2, 2, 3, 4, 5, 5);
        Due.sheet(x, 0, 1, 2, 3, 4, 5, 6, 7, 8);
        Due.is("two to the right", x.copy(0, 1, 0, 3, 5), 5);
        holds(x, "as they were", 0, 2, 1, 2, 3, 2, 3, 4, 5, 6);
    }

    private static void copyRefused() {
        Due.of("Promise 49", "BAD: SHEETS; -11; -13: unlike sorts; -12 (n below 0, too).");
        HatDownTheStreet x = new HatDownTheStreet();
        for (int s : NO_SHEET) {
            Due.is("source " + s, x.copy(s, 0, 0, 0, 0), BAD);
            Due.is("target " + s, x.copy(0, 0, s, 0, 0), BAD);
            Due.is("ahead of n", x.copy(0, 0, s, 0, -1), BAD);
        }
        Due.is("both missing", x.copy(0, 0, 1, 0, 0), -11);
        Due.is("its own, missing", x.copy(0, 0, 0, 0, 0), -11);
        x.sheet(0, 0, 5);
        for (int n : new int[] {0, 1, -1, 6, LEAST, MOST}) {
            Due.is("target missing", x.copy(0, -1, 1, 0, n), -11);
            Due.is("source missing", x.copy(1, 0, 0, 9, n), -11);
            Due.is("source no sheet", x.copy(4, 0, 1, 0, n), BAD);
        }
        for (int sort = 1; sort <= 2; sort++) {
            x.sheet(1, sort, 5);
            for (int n : new int[] {0, 1, -1, 6, LEAST, MOST}) {
                Due.is("unlike sorts", x.copy(0, 0, 1, 0, n), -13);
                Due.is("unlike sorts the other way", x.copy(1, 9, 0, -1, n), -13);
            }
        }
        x.sheet(0, 1, 5);
        Due.is("shorts and ints", x.copy(0, 0, 1, 0, 0), -13);
        x.sheet(0, 2, 5);
        Due.is("like sorts", x.copy(0, 0, 1, 0, 5), 5);
    }

    private static void copyOutside() {
        Due.of("Promise 49", "-12 (n below 0, too).");
        HatDownTheStreet x = withHat();
        Due.sheet(x, 0, 1, 2, 3, 4, 5);
        Due.sheet(x, 1, 0, 0, 0, 0);
        int[][] outside = {
            {-1, 0, 1}, {0, -1, 1}, {0, 0, -1}, {3, 0, 3}, {0, 2, 3}, {5, 0, 1}, {0, 4, 1}, {0, 0, 5}, {0, 0, 6}, {MOST, 0, 1},
            {0, MOST, 1}, {0, 0, MOST}, {MOST, MOST, MOST}, {1, 0, MOST}, {0, 1, MOST}, {0, 0, LEAST}, {LEAST, 0, 1}, {0, LEAST, 1},
            {LEAST, LEAST, LEAST}, {2, 0, LEAST}, {-1, -1, -1}, {-1, 0, 2}, {0, -1, 2}};
        for (int[] o : outside) {
            Due.is("from " + o[0] + " to " + o[1] + ", " + o[2], x.copy(0, o[0], 1, o[1], o[2]), -12);
        }
        holds(x, "nothing came", 1, 2, 0, 0, 0, 0);
        holds(x, "nor went", 0, 2, 1, 2, 3, 4, 5);
        Due.is("of its own, too", x.copy(0, 1, 0, 0, 5), -12);
        Due.is("to its own, too", x.copy(0, 0, 0, 1, 5), -12);
        Due.is("the last one", x.copy(0, 4, 1, 3, 1), 1);
    }

    private static void gustsBy() {
        Due.of("Promise 50", "GUSTS by a SHEET of a sort: from a place on, three by three (as of blow()), n of them (0 .. 13): how many blow so (others are left out).");
        for (int sort = 0; sort <= 2; sort++) {
            HatDownTheStreet x = new HatDownTheStreet();
            Due.sheetOf(x, 0, sort, 9, 0, 1, 2, 24, 0, 0, 3, 5, 0, 4, 2, 10, 23, 3, 9, 5, 4, 9, 0);
            Due.is("none", x.gustsBy(0, sort, 1, 0), 0);
            Due.is("nothing blows", x.wind(0), 40);
            Due.is("one", x.gustsBy(0, sort, 1, 1), 1);
            Due.is("blows so", x.wind(0), 12);
            Due.is("not the next one", x.wind(23), 40);
            Due.is("others are left out", x.gustsBy(0, sort, 1, 6), 3);
            Due.is("a way too great", x.wind(3), 40);
            Due.is("a strength too great", x.wind(4), 40);
            Due.is("the last second", x.wind(23), 39);
            Due.is("and behind what is left out", x.wind(5), 49);
            Due.is("as of the first place", x.gustsBy(0, sort, 0, 1), 1);
            Due.is("second 9", x.wind(9), 1);
            Due.is("from another one", x.gustsBy(0, sort, 2, 1), 0);
            Due.is("nothing of it", x.wind(2), 40);
        }
    }

    private static void gustsByEdges() {
        Due.of("Promise 50", "three by three (as of blow()), n of them (0 .. 13): how many blow so (others are left out).");
        HatDownTheStreet x = new HatDownTheStreet();
        x.sheet(0, 2, 39);
        for (int k = 0; k < 13; k++) {
            x.cell(0, 3 * k, k);
            x.cell(0, 3 * k + 1, k % 5);
            x.cell(0, 3 * k + 2, k % 10);
        }
        Due.is("all 13", x.gustsBy(0, 2, 0, 13), 13);
        for (int k = 0; k < 24; k++) {
            Due.is("wind(" + k + ")", x.wind(k), k < 13 ? 10 * (k % 5) + k % 10 : 40);
        }
        // Each number's last that blows, and the first that doesn't.
        int[][] gusts = {{0, 0, 0, 1}, {23, 4, 9, 1}, {-1, 0, 0, 0}, {24, 0, 0, 0}, {5, -1, 0, 0}, {5, 5, 0, 0}, {5, 0, -1, 0}, {5, 0, 10, 0},
            {LEAST, 0, 0, 0}, {MOST, 0, 0, 0}, {5, LEAST, 0, 0}, {5, MOST, 0, 0}, {5, 0, LEAST, 0}, {5, 0, MOST, 0}};
        for (int[] g : gusts) {
            Due.sheet(x, 1, g[0], g[1], g[2]);
            Due.is("gust " + g[0] + " " + g[1] + " " + g[2], x.gustsBy(1, 2, 0, 1), g[3]);
        }
        Due.is("the first", x.wind(0), 0);
        Due.is("the last", x.wind(23), 49);
        Due.is("as it was", x.wind(5), 5);
        // Of two of one second the later one stays.
        Due.sheet(x, 1, 7, 1, 1, 7, 2, 2);
        Due.is("both", x.gustsBy(1, 2, 0, 2), 2);
        Due.is("the later one", x.wind(7), 22);
        x.image();
        Due.is("the first alone", x.gustsBy(1, 2, 0, 1), 1);
        x.back();
        Due.is("gusts are kept in an image", x.wind(7), 22);
    }

    private static void gustsByBits() {
        Due.of("Promise 48", "(of bytes, shorts its lowest 8, 16 bits)");
        HatDownTheStreet x = new HatDownTheStreet();
        Due.sheetOf(x, 0, 0, 256 + 10, 3, -1);
        Due.is("a strength below 0", x.gustsBy(0, 0, 0, 1), 0);
        x.cell(0, 2, 256 + 9);
        Due.is("of bytes the lowest 8 bits", x.gustsBy(0, 0, 0, 1), 1);
        Due.is("blow so", x.wind(10), 39);
        Due.sheetOf(x, 0, 1, 256 + 10, 3, 1);
        Due.is("of shorts not the lowest 8", x.gustsBy(0, 1, 0, 1), 0);
        x.cell(0, 0, 65536 + 10);
        Due.is("but 16", x.gustsBy(0, 1, 0, 1), 1);
        Due.is("blow so", x.wind(10), 31);
        Due.sheetOf(x, 0, 2, 65536 + 10, 3, 2);
        Due.is("of ints all", x.gustsBy(0, 2, 0, 1), 0);
    }

    private static void gustsByOutside() {
        Due.of("Promise 50", "-12: what stood ahead blows.");
        HatDownTheStreet x = new HatDownTheStreet();
        Due.sheet(x, 1, 7, 2, 3, 8, 1, 1, 9, 1);
        Due.is("a place outside", x.gustsBy(1, 2, 0, 3), -12);
        Due.is("what stood ahead blows", x.wind(7), 23);
        Due.is("that, too", x.wind(8), 11);
        Due.is("not what is cut", x.wind(9), 40);
        Due.is("the last whole one", x.gustsBy(1, 2, 5, 1), 0);
        for (int at : new int[] {6, 7, 8, 9, 40, -1, -2, -3, LEAST, MOST, MOST - 1, MOST - 2}) {
            Due.is("place " + at, x.gustsBy(1, 2, at, 1), -12);
            Due.is("place " + at + ", 13", x.gustsBy(1, 2, at, 13), -12);
        }
        Due.is("nothing else blows", x.wind(9), 40);
        // Those left out ahead of it are left out.
        Due.sheet(x, 1, 24, 0, 0, 11, 1, 5, 12);
        Due.is("behind one that is left out", x.gustsBy(1, 2, 0, 3), -12);
        Due.is("what stood ahead", x.wind(11), 15);
        Due.is("what is cut", x.wind(12), 40);
        x.sheet(2, 2, 39);
        Due.is("13 in 39", x.gustsBy(2, 2, 0, 13), 13);
        Due.is("13 from 1", x.gustsBy(2, 2, 1, 13), -12);
        Due.is("12 from 3", x.gustsBy(2, 2, 3, 12), 12);
        x.sheet(2, 2, 40);
        Due.is("13 from 1 in 40", x.gustsBy(2, 2, 1, 13), 13);
        Due.is("13 from 2 in 40", x.gustsBy(2, 2, 2, 13), -12);
        Due.is("the last three of 40", x.gustsBy(2, 2, 37, 1), 1);
        Due.is("the last two of 40", x.gustsBy(2, 2, 38, 1), -12);
        x.sheet(2, 2, 2);
        Due.is("of two numbers", x.gustsBy(2, 2, 0, 1), -12);
        x.sheet(2, 2, 0);
        Due.is("of no numbers", x.gustsBy(2, 2, 0, 1), -12);
    }

    private static void gustsByRefused() {
        Due.of("Promise 50", "BAD: SHEET, sort, n; -11; -13; -12: what stood ahead blows.");
        HatDownTheStreet x = new HatDownTheStreet();
        for (int wrong : NO_SHEET) {
            Due.is("sheet " + wrong, x.gustsBy(wrong, 0, 0, 0), BAD);
            int sort = wrong == 4 ? 3 : wrong;
            int n = wrong == 4 ? 14 : wrong;
            Due.is("sort " + sort, x.gustsBy(0, sort, 0, 0), BAD);
            Due.is("n " + n, x.gustsBy(0, 0, 0, n), BAD);
            Due.is("n ahead of place", x.gustsBy(0, 0, -1, n), BAD);
        }
        for (int s = 0; s < 4; s++) {
            for (int sort = 0; sort <= 2; sort++) {
                Due.is("nothing there", x.gustsBy(s, sort, 0, 0), -11);
                Due.is("nothing there, ahead of place", x.gustsBy(s, sort, -1, 13), -11);
            }
        }
        for (int sort = 0; sort <= 2; sort++) {
            x.sheet(0, sort, 40);
            for (int other = 0; other <= 2; other++) {
                Due.is("sort " + other + " of " + sort, x.gustsBy(0, other, 0, 1), other == sort ? 1 : -13);
                Due.is("ahead of place", x.gustsBy(0, other, -1, 1), other == sort ? -12 : -13);
                Due.is("n ahead of sort", x.gustsBy(0, other, 0, 14), BAD);
            }
        }
    }

    private static void takenSquares() {
        Due.of("Promise 51", "What lies at place i: 0 .. 31 SQUARES with a PUDDLE or an EDDY, 32 .. 35 HATS");
        HatDownTheStreet x = new HatDownTheStreet();
        for (int c = 0; c < 32; c++) {
            Due.is("nothing lies in " + c, x.taken(c, 6), -11);
            x.street(2, c, 1);
            Due.is("an eddy in " + c, x.taken(c, 6), 0);
            x.street(1, c, 1);
            Due.is("both in " + c, x.taken(c, 6), 1);
            x.street(2, c, 0);
            Due.is("a puddle in " + c, x.taken(c, 6), 1);
            Due.is("a square is no hat", x.taken(c, c % 6), -13);
            x.street(1, c, 0);
            Due.is("nothing again in " + c, x.taken(c, c % 7), -11);
        }
        x = new HatDownTheStreet();
        Due.walls(x, 5, 6);
        Due.puddles(x, 6);
        x.hat(0, 7, 0);
        x.come(8, 0, 0);
        Due.is("a wall alone is nothing", x.taken(5, 6), -11);
        Due.is("a puddle in a wall", x.taken(6, 6), 1);
        Due.is("a hat lies at its own place", x.taken(7, 0), -11);
        Due.is("a catcher lies nowhere", x.taken(8, 6), -11);
    }

    private static void takenHats() {
        Due.of("Promise 51", "taken for 0 .. 5 a HAT of that KIND (also of one that is one): its number; 6 a SQUARE: 1, if it has a PUDDLE, else 0.");
        boolean[][] isOne = {
            {true, false, false, false, false, false}, {true, true, false, false, false, false},
            {true, false, true, false, false, false}, {true, true, false, true, false, false},
            {true, false, true, false, true, false}, {true, false, false, false, false, true}};
        for (int kind = 0; kind < 6; kind++) {
            HatDownTheStreet x = new HatDownTheStreet();
            for (int h = 0; h < 4; h++) {
                Due.is("no hat " + h, x.taken(32 + h, 0), -11);
                x.hat(10 * kind + h, 0, 0);
                for (int wanted = 0; wanted < 6; wanted++) {
                    Due.is(kind + " for " + wanted, x.taken(32 + h, wanted), isOne[kind][wanted] ? h : -13);
                }
                Due.is("a hat is no square", x.taken(32 + h, 6), -13);
            }
            x.come(0, 0, 0);
            x.run(1, 0);
            Due.is("a hat less", x.taken(35, 0), -11);
            Due.is("the third is the second", x.taken(33, kind), 1);
        }
    }

    private static void takenRefused() {
        Due.of("Promise 51", "BAD: kind; -12: i; -11: nothing lies there; -13.");
        HatDownTheStreet x = new HatDownTheStreet();
        Due.puddles(x, 4);
        x.hat(0, 0, 0);
        for (int kind : new int[] {-1, 7, LEAST, MOST}) {
            for (int i : new int[] {-1, 0, 4, 31, 32, 33, 35, 36, LEAST, MOST}) {
                Due.is("kind ahead of place " + i, x.taken(i, kind), BAD);
            }
        }
        for (int kind = 0; kind <= 6; kind++) {
            for (int i : new int[] {-1, 36, LEAST, MOST}) {
                Due.is("place " + i, x.taken(i, kind), -12);
            }
            for (int i : new int[] {0, 31, 33, 34, 35}) {
                Due.is("nothing lies at " + i, x.taken(i, kind), -11);
            }
            Due.is("the puddle", x.taken(4, kind), kind == 6 ? 1 : -13);
            Due.is("the hat", x.taken(32, kind), kind == 0 ? 0 : -13);
        }
    }
}
