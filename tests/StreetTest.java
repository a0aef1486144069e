/** Promises 1 to 9: the street, the law. */
public final class StreetTest {
    private static final int NONE = HatDownTheStreet.NONE, BAD = HatDownTheStreet.BAD;
    private static final int STATE = HatDownTheStreet.STATE, FULL = HatDownTheStreet.FULL;

    public static void main(String[] args) {
        aNewObject();
        objectsOfTheirOwn();
        street();
        streetRefused();
        wallsThatCome();
        blow();
        wind();
        count();
        feed();
        feedRefused();
        text();
        aFaultOnly();
        textFull();
        force();
        asks();
        asksOfTheLaw();
        asksAtItsEdges();
        Due.end();
    }

    private static void isEmpty(HatDownTheStreet x) {
        for (int what = 0; what < 8; what++) {
            Due.is("count(" + what + ")", x.count(what), what == 5 ? 1 : 0);
        }
        for (int second = 0; second < 24; second++) {
            Due.is("wind(" + second + ")", x.wind(second), 40);
        }
        for (int s = 0; s < 4; s++) {
            Due.is("cell(" + s + ", 0, 0)", x.cell(s, 0, 0), -11);
        }
        Due.is("told(0, 0)", x.told(0, 0), -5);
        Due.is("does(0, 0, 0)", x.does(0, 0, 0), -5);
        Due.is("back()", x.back(), STATE);
        Due.is("asks: goes", x.asks(0, 70, 0, 0, 0), 7);
        Due.is("asks: turns", x.asks(1, 70, 0, 0, 0), 1);
        Due.is("asks: worth", x.asks(2, 70, 0, 4, 0), 26);
        Due.is("force(1)", x.force(1), BAD);
        Due.is("text()", x.text(), -100);
    }

    private static void aNewObject() {
        Due.of("Promise 1", "An empty street, no GUSTS.");
        isEmpty(new HatDownTheStreet());
    }

    private static void objectsOfTheirOwn() {
        Due.of("Promise 1", "An empty street, no GUSTS.");
        HatDownTheStreet before = new HatDownTheStreet();
        HatDownTheStreet x = Furnished.street();
        isEmpty(before);
        isEmpty(new HatDownTheStreet());
        Furnished.isAsItWas("what other objects were asked", x);
        // Two that differ in a text, an image, a sheet and the tape.
        HatDownTheStreet[] two = {new HatDownTheStreet(), new HatDownTheStreet()};
        for (int i = 0; i < 2; i++) {
            Due.text(two[i], "goes " + (i + 3) + ";turns 1;worth 1;");
            two[i].force(1);
            two[i].hat(20, 10 + i, 0);
            two[i].image();
            two[i].set(0, 0, 0);
            two[i].sheet(0, i, 5);
            two[i].feed(i + 1, 32, 32, 32, 32, 32);
        }
        for (int i = 0; i < 2; i++) {
            Due.is("its own text", two[i].asks(0, 0, 0, 0, 0), i + 3);
            Due.is("its own image", two[i].back() + two[i].told(0, 0), 1 + 10 + i);
            Due.is("its own sheet", two[i].gustsBy(0, i, 0, 0), 0);
            Due.is("its own tape", two[i].count(7), i + 1);
        }
    }

    private static void street() {
        Due.of("Promise 2", "In a SQUARE there is what 0 a WALL, 1 a PUDDLE, 2 an EDDY (1), or not (0): what it was.");
        for (int what = 0; what < 3; what++) {
            HatDownTheStreet x = new HatDownTheStreet();
            for (int c = 0; c < 32; c++) {
                Due.is("it is not there", x.street(what, c, 0), 0);
                Due.is("it comes", x.street(what, c, 1), 0);
                Due.is("it is there", x.street(what, c, 1), 1);
                Due.is("its bit alone", x.count(2 + what), 1 << c);
                for (int other = 0; other < 3; other++) {
                    Due.is("of what " + other, x.count(2 + other), other == what ? 1 << c : 0);
                }
                Due.is("it goes", x.street(what, c, 0), 1);
                Due.is("it is gone", x.street(what, c, 0), 0);
                Due.is("no bit", x.count(2 + what), 0);
            }
        }
        HatDownTheStreet x = new HatDownTheStreet();
        for (int what = 0; what < 3; what++) {
            Due.is("all three in one square", x.street(what, 12, 1), 0);
        }
        for (int what = 0; what < 3; what++) {
            for (int other = 0; other < 3; other++) {
                int c = 13 + 3 * what + other;
                x.street(what, c, 1);
                x.street(other, c, 1);
                Due.is("what comes first stays", x.count(2 + what) >>> c & 1, 1);
                Due.is("what comes then is there", x.count(2 + other) >>> c & 1, 1);
                x.street(other, c, 0);
                Due.is("and goes alone", x.count(2 + what) >>> c & 1, what == other ? 0 : 1);
            }
        }
        Due.is("a puddle goes", x.street(1, 12, 0), 1);
        Due.is("the wall stays", x.street(0, 12, 1), 1);
        Due.is("the eddy stays", x.street(2, 12, 1), 1);
    }

    private static void streetRefused() {
        Due.of("Promise 2", "NONE: what; BAD: SQUARE, is; STATE: a HAT, a CATCHER is there (of a WALL that comes).");
        HatDownTheStreet x = new HatDownTheStreet();
        x.hat(0, 5, 0);
        for (int what : new int[] {-1, 3, Integer.MIN_VALUE, Integer.MAX_VALUE}) {
            Due.is("what " + what, x.street(what, 0, 0), NONE);
            Due.is("ahead of square", x.street(what, 32, 0), NONE);
            Due.is("ahead of is", x.street(what, 0, 2), NONE);
            Due.is("ahead of a hat", x.street(what, 5, 1), NONE);
        }
        for (int what = 0; what < 3; what++) {
            Due.is("square below", x.street(what, -1, 0), BAD);
            Due.is("square above", x.street(what, 32, 0), BAD);
            Due.is("is above", x.street(what, 1, 2), BAD);
            Due.is("is below", x.street(what, 1, -1), BAD);
            Due.is("is above where a hat is", x.street(what, 5, 2), BAD);
        }
        Due.is("nothing came", x.count(2) | x.count(3) | x.count(4), 0);
    }

    private static void wallsThatCome() {
        Due.of("Promise 2", "STATE: a HAT, a CATCHER is there (of a WALL that comes).");
        HatDownTheStreet x = new HatDownTheStreet();
        for (int k = 0; k < 4; k++) {
            x.hat(0, k, 0);
            x.come(28 + k, 1, 1);
        }
        for (int c = 0; c < 32; c++) {
            Due.is("a wall in " + c, x.street(0, c, 1), c < 4 || c > 27 ? STATE : 0);
        }
        Due.is("walls", x.count(2), 0x0FFFFFF0);
        for (int c : new int[] {0, 3, 28, 31}) {
            Due.is("none comes", x.street(0, c, 0), 0);
            Due.is("a puddle comes", x.street(1, c, 1), 0);
            Due.is("an eddy comes", x.street(2, c, 1), 0);
        }
        for (int c = 4; c < 28; c++) {
            x.street(0, c, 0);
        }
        x.set(1, 0, 7);
        Due.is("where a hat came", x.street(0, 7, 1), STATE);
        Due.is("where it was", x.street(0, 1, 1), 0);
        x.does(1, 0, 20);
        Due.is("where a catcher came", x.street(0, 20, 1), STATE);
        Due.is("where one was", x.street(0, 29, 1), 0);
        x.does(0, 0, 3);
        x.does(0, 2, 3);
        Due.is("a hat is had", x.run(3, 0), 0);
        Due.is("the catcher is there", x.street(0, 3, 1), STATE);
        x.does(0, 0, 20);
        Due.is("no hat is there any more", x.street(0, 3, 1), 0);
        Due.is("where none is yet, but will be", x.street(0, 8, 1), 0);
    }

    private static void blow() {
        Due.of("Promise 3", "The GUST of a SECOND (WAY, STRENGTH): 10 times the WAY, and STRENGTH, as they were.");
        HatDownTheStreet x = new HatDownTheStreet();
        Due.is("at first", x.blow(0, 0, 9), 40);
        Due.is("then", x.blow(0, 4, 3), 9);
        Due.is("of none", x.blow(0, 3, 0), 43);
        Due.is("the last second", x.blow(23, 2, 1), 40);
        Due.is("again", x.blow(23, 4, 9), 21);
        Due.is("the same again", x.blow(23, 4, 9), 49);
        Due.is("as it was", x.blow(23, 0, 0), 49);
        Due.is("second 0", x.wind(0), 30);
        Due.is("second 23", x.wind(23), 0);
        for (int second = 1; second < 23; second++) {
            Due.is("no other second", x.wind(second), 40);
        }
        Due.of("Promise 3", "-5: no such SECOND; -7: the others.");
        for (int second : new int[] {-1, 24, Integer.MIN_VALUE, Integer.MAX_VALUE}) {
            Due.is("second " + second, x.blow(second, 0, 0), -5);
            Due.is("ahead of way", x.blow(second, 5, 0), -5);
            Due.is("ahead of strength", x.blow(second, 0, 10), -5);
        }
        Due.is("way below", x.blow(0, -1, 0), -7);
        Due.is("way above", x.blow(0, 5, 0), -7);
        Due.is("strength below", x.blow(0, 0, -1), -7);
        Due.is("strength above", x.blow(0, 0, 10), -7);
        Due.is("as it was", x.wind(0), 30);
    }

    private static void wind() {
        Due.of("Promise 4", "10 times the WAY, and STRENGTH.");
        HatDownTheStreet x = new HatDownTheStreet();
        for (int second = 0; second < 24; second++) {
            x.blow(second, second % 5, 9 - second % 10);
        }
        for (int second = 0; second < 24; second++) {
            Due.is("wind(" + second + ")", x.wind(second), 10 * (second % 5) + 9 - second % 10);
        }
        Due.of("Promise 4", "-5: no such SECOND.");
        for (int second : new int[] {-1, 24, Integer.MIN_VALUE, Integer.MAX_VALUE}) {
            Due.is("wind(" + second + ")", x.wind(second), -5);
        }
    }

    private static void count() {
        Due.of("Promise 5", "0 HATS, 1 CATCHERS, 2 SQUARES with WALLS, 3 PUDDLES, 4 EDDIES (bits), 5 TEXTS, 6 THE LAW, 7 bytes of THE TAPE.");
        HatDownTheStreet x = new HatDownTheStreet();
        x.hat(0, 0, 0);
        x.hat(0, 0, 0);
        x.come(0, 0, 0);
        Due.walls(x, 3, 31);
        Due.puddles(x, 4, 5, 31);
        Due.eddies(x, 6, 31, 0);
        Due.text(x, "goes 1;turns 1;worth 1;");
        Due.text(x, "goes 1;turns 1;worth 1;");
        x.force(2);
        x.feed(3, 32, 32, 32, 0, 0);
        int[] due = {2, 1, Due.bits(31, 3), Due.bits(4, 5, 31), Due.bits(0, 6, 31), 3, 2, 3};
        for (int what = 0; what < due.length; what++) {
            Due.is("count(" + what + ")", x.count(what), due[what]);
        }
        Due.of("Promise 5", "7 bytes of THE TAPE. BAD.");
        for (int what : new int[] {-1, 8, Integer.MIN_VALUE, Integer.MAX_VALUE}) {
            Due.is("count(" + what + ")", x.count(what), BAD);
        }
    }

    private static void feed() {
        Due.of("Promise 6", "The first n (1 .. 5) of five bytes (0 .. 255 each) come behind THE TAPE's, one by one: how many it has.");
        HatDownTheStreet x = new HatDownTheStreet();
        Due.is("one", x.feed(1, 0, 255, 255, 255, 255), 1);
        Due.is("two", x.feed(2, 0, 255, 0, 0, 0), 3);
        Due.is("three", x.feed(3, 0, 255, 0, 0, 0), 6);
        Due.is("four", x.feed(4, 0, 255, 0, 0, 0), 10);
        Due.is("five", x.feed(5, 255, 255, 255, 255, 255), 15);
        Due.is("so many", x.count(7), 15);
        // Only the first n come, and in their order.
        String text = "goes 1;turns 2;worth 3;";
        for (int n = 1; n <= 5; n++) {
            x = new HatDownTheStreet();
            for (int i = 0; i < text.length(); i += n) {
                int[] b = {'?', '?', '?', '?', '?'};
                int many = Math.min(n, text.length() - i);
                for (int k = 0; k < many; k++) {
                    b[k] = text.charAt(i + k);
                }
                Due.is("by " + n, x.feed(many, b[0], b[1], b[2], b[3], b[4]), i + many);
            }
            Due.is("a text by " + n, x.text(), 1);
            x.force(1);
            Due.is("goes", x.asks(0, 0, 0, 0, 0), 1);
            Due.is("turns", x.asks(1, 0, 0, 0, 0), 2);
            Due.is("worth", x.asks(2, 0, 0, 0, 0), 3);
        }
    }

    private static void feedRefused() {
        Due.of("Promise 6", "BAD: n, any of the five; FULL: they have not all room (none comes).");
        HatDownTheStreet x = new HatDownTheStreet();
        for (int n : new int[] {0, -1, 6, Integer.MIN_VALUE, Integer.MAX_VALUE}) {
            Due.is("n " + n, x.feed(n, 32, 32, 32, 32, 32), BAD);
        }
        for (int k = 0; k < 5; k++) {
            for (int v : new int[] {-1, 256, Integer.MIN_VALUE, Integer.MAX_VALUE}) {
                int[] b = new int[5];
                b[k] = v;
                Due.is("byte " + k + ", also if only one comes", x.feed(1, b[0], b[1], b[2], b[3], b[4]), BAD);
                Due.is("byte " + k + " of five", x.feed(5, b[0], b[1], b[2], b[3], b[4]), BAD);
            }
        }
        Due.is("none came", x.count(7), 0);
        for (int i = 1; i <= 31; i++) {
            Due.is("five", x.feed(5, 32, 32, 32, 32, 32), 5 * i);
        }
        Due.is("two", x.feed(2, 32, 32, 32, 32, 32), 157);
        Due.is("no room for five", x.feed(5, 32, 32, 32, 32, 32), FULL);
        Due.is("no room for four", x.feed(4, 32, 32, 32, 32, 32), FULL);
        Due.is("bytes ahead of room", x.feed(4, 256, 32, 32, 32, 32), BAD);
        Due.is("n ahead of room", x.feed(6, 32, 32, 32, 32, 32), BAD);
        Due.is("none came", x.count(7), 157);
        Due.is("just room for three", x.feed(3, 32, 32, 32, 32, 32), 160);
        Due.is("full", x.feed(1, 32, 32, 32, 32, 32), FULL);
        Due.is("160", x.count(7), 160);
        // None of four came where three had room: the text ends as it began.
        x = new HatDownTheStreet();
        String text = "goes 1;turns 1;worth 1";
        Due.feedAll(x, text + " ".repeat(157 - text.length()));
        Due.is("four have no room", x.feed(4, ';', '?', '?', '?', 0), FULL);
        Due.is("one has", x.feed(1, ';', '?', '?', '?', '?'), 158);
        Due.is("none of the four came", x.text(), 1);
    }

    private static void text() {
        Due.of("Promise 7", "THE TAPE, which is empty then (by a FAULT, too), is a TEXT: its number; -100 less the place of its FAULT.");
        HatDownTheStreet x = new HatDownTheStreet();
        Due.is("an empty tape", x.text(), -100);
        Due.is("a fault", Due.text(x, "goes 8;turns 8;worth ;"), -121);
        Due.is("the tape is empty behind it", x.count(7), 0);
        Due.is("no text came", x.count(5), 1);
        Due.is("THE LAW stays", x.count(6), 0);
        for (int t = 1; t < 6; t++) {
            Due.is("its number", Due.text(x, "goes " + t + ";turns " + t + ";worth " + t + ";"), t);
            Due.is("the tape is empty", x.count(7), 0);
            Due.is("so many", x.count(5), t + 1);
            Due.is("THE LAW stays", x.count(6), 0);
        }
        for (int t = 1; t < 6; t++) {
            x.force(t);
            Due.is("goes of " + t, x.asks(0, 0, 0, 0, 0), t);
            Due.is("turns of " + t, x.asks(1, 0, 0, 0, 0), t % 3);
            Due.is("worth of " + t, x.asks(2, 0, 0, 0, 0), t);
        }
        x.force(0);
        Due.is("text 0 stays", x.asks(0, 70, 0, 0, 0), 7);
        x = new HatDownTheStreet();
        Due.is("place 0", Due.text(x, "?"), -100);
        Due.is("place 1", Due.text(x, " ?"), -101);
        Due.is("place 159", Due.text(x, " ".repeat(159) + "?"), -259);
        Due.is("place 160", Due.text(x, " ".repeat(160)), -260);
    }

    /** A text by which a fault comes late leaves nothing in the next one, nor in that by which it goes. */
    private static void aFaultOnly() {
        Due.of("Promise 7", "THE TAPE, which is empty then (by a FAULT, too), is a TEXT: its number; -100 less the place of its FAULT.");
        HatDownTheStreet x = Due.withLaw("goes 4;turns 2;worth 44;");
        Due.is("a late fault", Due.text(x, "goes 5;turns 1;worth 55;?"), -124);
        Due.is("goes still", x.asks(0, 0, 0, 0, 0), 4);
        Due.is("turns still", x.asks(1, 0, 0, 0, 0), 2);
        Due.is("worth still", x.asks(2, 0, 0, 0, 0), 44);
        Due.is("a text behind it", Due.text(x, "goes 1;turns 0;worth 7;"), 2);
        Due.is("which is forced", x.force(2), 1);
        Due.is("goes", x.asks(0, 0, 0, 0, 0), 1);
        Due.is("turns", x.asks(1, 0, 0, 0, 0), 0);
        Due.is("worth", x.asks(2, 0, 0, 0, 0), 7);
    }

    private static void textFull() {
        Due.of("Promise 7", "FULL (ahead of the FAULT; then THE TAPE stays).");
        HatDownTheStreet x = new HatDownTheStreet();
        for (int t = 1; t < 5; t++) {
            Due.is("text " + t, Due.text(x, "goes 1;turns 1;worth 1;"), t);
        }
        Due.is("a fault while there is room", Due.text(x, "?"), -100);
        Due.is("the last", Due.text(x, "goes 1;turns 1;worth 1;"), 5);
        Due.is("an empty tape", x.text(), FULL);
        Due.is("ahead of the fault", Due.text(x, "A"), FULL);
        Due.is("the tape stays", x.count(7), 1);
        Due.is("as it is", x.feed(2, 'B', 'C', 0, 0, 0), 3);
        Due.is("still full", x.text(), FULL);
        Due.is("it stays still", x.count(7), 3);
        Due.is("six", x.count(5), 6);
        Due.is("THE LAW stays", x.count(6), 0);
    }

    private static void force() {
        Due.of("Promise 8", "A TEXT is THE LAW: which was. BAD.");
        HatDownTheStreet x = new HatDownTheStreet();
        Due.is("text 0", x.force(0), 0);
        Due.is("none yet", x.force(1), BAD);
        Due.text(x, "goes 1;turns 1;worth 1;");
        Due.is("text 1", x.force(1), 0);
        Due.is("THE LAW", x.count(6), 1);
        Due.is("again", x.force(1), 1);
        Due.is("which was", x.force(0), 1);
        for (int t : new int[] {-1, 2, 6, Integer.MIN_VALUE, Integer.MAX_VALUE}) {
            Due.is("force(" + t + ")", x.force(t), BAD);
        }
        Due.is("THE LAW stays", x.count(6), 0);
        Due.text(x, "goes 1;turns 1;worth ;");
        Due.is("a fault is no text", x.force(2), BAD);
        for (int t = 2; t < 6; t++) {
            Due.text(x, "goes 1;turns 1;worth 1;");
            Due.is("text " + t, x.force(t), t == 2 ? 0 : t - 1);
        }
    }

    private static void asks() {
        Due.of("Promise 9", "What part 0 goes, 1 turns, 2 worth says");
        HatDownTheStreet x = new HatDownTheStreet();
        Due.is("goes", x.asks(0, 92, 95, 24, 31), 9);
        Due.is("turns", x.asks(1, 0, 0, 0, 0), 1);
        Due.is("worth", x.asks(2, 0, 0, 24, 0), 6);
        Due.is("worth at once", x.asks(2, 0, 0, 0, 0), 30);
        Due.of("Promise 9", "-1000: none such.");
        int[][] bad = {
            {-1, 0, 0, 0, 0}, {3, 0, 0, 0, 0}, {0, -1, 0, 0, 0}, {0, 3, 0, 0, 0}, {0, 9, 0, 0, 0}, {0, 13, 0, 0, 0}, {0, 93, 0, 0, 0},
            {0, 100, 0, 0, 0}, {0, 0, -1, 0, 0}, {0, 0, 6, 0, 0}, {0, 0, 9, 0, 0}, {0, 0, 16, 0, 0}, {0, 0, 96, 0, 0},
            {0, 0, 100, 0, 0}, {0, 0, 0, -1, 0}, {0, 0, 0, 25, 0}, {0, 0, 0, 0, -1}, {0, 0, 0, 0, 32}};
        for (int[] b : bad) {
            Due.is("none such", x.asks(b[0], b[1], b[2], b[3], b[4]), -1000);
        }
        Due.walls(x, 31);
        Due.is("of a square with a wall, too", x.asks(2, 0, 0, 0, 31), 30);
    }

    /** By a law, each of whose parts says one name, each number at its least and its most. */
    private static void asksOfTheLaw() {
        Due.of("Promise 9", "(howLie: 10 times strength, and lie, 0 .. 92; moreKind: 10 times more, and kind, 0 .. 95; second 0 .. 24; cell)");
        String[] names = {"strength", "lie", "more", "kind", "second", "cell"};
        int[][] asked = {{0, 0, 0, 0}, {92, 95, 24, 31}, {90, 0, 0, 0}, {2, 0, 0, 0}, {0, 90, 0, 0}, {0, 5, 0, 0}, {41, 73, 11, 17}};
        for (int[] a : asked) {
            int[] due = {a[0] / 10, a[0] % 10, a[1] / 10, a[1] % 10, a[2], a[3]};
            for (int i = 0; i < names.length; i++) {
                HatDownTheStreet x = Due.withLaw("goes " + names[i] + ";turns " + names[i] + ";worth " + names[i] + ";");
                Due.is("goes " + names[i], x.asks(0, a[0], a[1], a[2], a[3]), Math.min(9, due[i]));
                Due.is("turns " + names[i], x.asks(1, a[0], a[1], a[2], a[3]), due[i] % 3);
                Due.is("worth " + names[i], x.asks(2, a[0], a[1], a[2], a[3]), due[i]);
            }
        }
    }

    private static void asksAtItsEdges() {
        Due.of("Promise 9", "What part 0 goes, 1 turns, 2 worth says");
        HatDownTheStreet x = Due.withLaw("goes second - 3;turns second - 3;worth 95 + second;");
        Due.is("goes below 0", x.asks(0, 0, 0, 2, 0), 0);
        Due.is("goes 0", x.asks(0, 0, 0, 3, 0), 0);
        Due.is("goes 1", x.asks(0, 0, 0, 4, 0), 1);
        Due.is("goes 9", x.asks(0, 0, 0, 12, 0), 9);
        Due.is("goes above 9", x.asks(0, 0, 0, 13, 0), 9);
        Due.is("turns of -3", x.asks(1, 0, 0, 0, 0), 0);
        Due.is("turns of -2", x.asks(1, 0, 0, 1, 0), 1);
        Due.is("turns of -1", x.asks(1, 0, 0, 2, 0), 2);
        Due.is("turns of 2", x.asks(1, 0, 0, 5, 0), 2);
        Due.is("turns of 3", x.asks(1, 0, 0, 6, 0), 0);
        Due.is("worth 98", x.asks(2, 0, 0, 3, 0), 98);
        Due.is("worth 99", x.asks(2, 0, 0, 4, 0), 99);
        Due.is("worth above 99", x.asks(2, 0, 0, 5, 0), 99);
        x = Due.withLaw("goes 0;turns 0;worth -95 - second;");
        Due.is("worth -98", x.asks(2, 0, 0, 3, 0), -98);
        Due.is("worth -99", x.asks(2, 0, 0, 4, 0), -99);
        Due.is("worth below -99", x.asks(2, 0, 0, 5, 0), -99);
    }
}
