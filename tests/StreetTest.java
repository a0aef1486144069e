/** Promises 1 to 9: the street, the law. */
public final class StreetTest {
    public static void main(String[] args) {
        aNewObject();
        street();
        blowAndWind();
        count();
        feed();
        texts();
        faults();
        opens();
        force();
        asks();
        values();
        Due.end();
    }

    private static void aNewObject() {
        HatDownTheStreet x = new HatDownTheStreet();
        for (int what = 0; what < 8; what++) {
            Due.is("1: count(" + what + ")", x.count(what), what == 5 ? 1 : 0);
        }
        for (int second = 0; second < 24; second++) {
            Due.is("1: wind(" + second + ")", x.wind(second), 40);
        }
        for (int s = 0; s < 4; s++) {
            Due.is("1: cell(" + s + ", 0, 0)", x.cell(s, 0, 0), -11);
        }
        Due.is("1: back()", x.back(), HatDownTheStreet.STATE);
    }

    private static void street() {
        HatDownTheStreet x = new HatDownTheStreet();
        for (int what = 0; what < 3; what++) {
            Due.is("2: comes", x.street(what, 31, 1), 0);
            Due.is("2: stays", x.street(what, 31, 1), 1);
            Due.is("2: bits", x.count(2 + what), 1 << 31);
            Due.is("2: goes", x.street(what, 31, 0), 1);
            Due.is("2: stays gone", x.street(what, 31, 0), 0);
            Due.is("2: bits", x.count(2 + what), 0);
            Due.is("2: square 0", x.street(what, 0, 1), 0);
            Due.is("2: bit 0", x.count(2 + what), 1);
        }
        Due.is("2: what below", x.street(-1, 0, 0), HatDownTheStreet.NONE);
        Due.is("2: what above", x.street(3, 0, 0), HatDownTheStreet.NONE);
        Due.is("2: what ahead of square", x.street(3, 32, 2), HatDownTheStreet.NONE);
        Due.is("2: square below", x.street(0, -1, 0), HatDownTheStreet.BAD);
        Due.is("2: square above", x.street(0, 32, 0), HatDownTheStreet.BAD);
        Due.is("2: is above", x.street(0, 1, 2), HatDownTheStreet.BAD);
        Due.is("2: is below", x.street(0, 1, -1), HatDownTheStreet.BAD);
        x.hat(0, 5, 0);
        x.come(6, 1, 1);
        Due.is("2: a hat is there", x.street(0, 5, 1), HatDownTheStreet.STATE);
        Due.is("2: a catcher is there", x.street(0, 6, 1), HatDownTheStreet.STATE);
        Due.is("2: is ahead of the hat", x.street(0, 5, 2), HatDownTheStreet.BAD);
        Due.is("2: no wall comes", x.street(0, 5, 0), 0);
        Due.is("2: a puddle comes", x.street(1, 5, 1), 0);
        Due.is("2: an eddy comes", x.street(2, 6, 1), 0);
        Due.is("2: walls as they were", x.count(2), 1);
        x.set(0, 0, 7);
        Due.is("2: where a hat was", x.street(0, 5, 1), 0);
    }

    private static void blowAndWind() {
        HatDownTheStreet x = new HatDownTheStreet();
        Due.is("3: first", x.blow(0, 0, 9), 40);
        Due.is("3: again", x.blow(0, 4, 3), 9);
        Due.is("3: of a still one", x.blow(0, 3, 0), 43);
        Due.is("3: last second", x.blow(23, 2, 1), 40);
        Due.is("4: second 0", x.wind(0), 30);
        Due.is("4: second 23", x.wind(23), 21);
        Due.is("3: second below", x.blow(-1, 0, 0), -5);
        Due.is("3: second above", x.blow(24, 0, 0), -5);
        Due.is("3: second ahead of way", x.blow(24, 5, 10), -5);
        Due.is("3: way below", x.blow(0, -1, 0), -7);
        Due.is("3: way above", x.blow(0, 5, 0), -7);
        Due.is("3: strength below", x.blow(0, 0, -1), -7);
        Due.is("3: strength above", x.blow(0, 0, 10), -7);
        Due.is("3: as it was", x.wind(0), 30);
        Due.is("4: below", x.wind(-1), -5);
        Due.is("4: above", x.wind(24), -5);
    }

    private static void count() {
        HatDownTheStreet x = new HatDownTheStreet();
        x.hat(0, 0, 0);
        x.hat(0, 0, 0);
        x.come(0, 0, 0);
        Due.walls(x, 3, 31);
        Due.puddles(x, 4, 5);
        Due.eddies(x, 6);
        Due.text(x, "goes 1;turns 1;worth 1;");
        x.force(1);
        x.feed(3, 32, 32, 32, 0, 0);
        int[] due = {2, 1, 1 << 31 | 8, 48, 64, 2, 1, 3};
        for (int what = 0; what < due.length; what++) {
            Due.is("5: count(" + what + ")", x.count(what), due[what]);
        }
        Due.is("5: below", x.count(-1), HatDownTheStreet.BAD);
        Due.is("5: above", x.count(8), HatDownTheStreet.BAD);
    }

    private static void feed() {
        HatDownTheStreet x = new HatDownTheStreet();
        Due.is("6: n below", x.feed(0, 0, 0, 0, 0, 0), HatDownTheStreet.BAD);
        Due.is("6: n above", x.feed(6, 0, 0, 0, 0, 0), HatDownTheStreet.BAD);
        for (int k = 0; k < 5; k++) {
            for (int v : new int[] {-1, 256}) {
                int[] b = new int[5];
                b[k] = v;
                Due.is("6: byte " + k, x.feed(1, b[0], b[1], b[2], b[3], b[4]), HatDownTheStreet.BAD);
            }
        }
        Due.is("6: 0 and 255 are bytes", x.feed(2, 0, 255, 255, 0, 255), 2);
        for (int i = 1; i < 32; i++) {
            Due.is("6: five", x.feed(5, 32, 32, 32, 32, 32), 2 + 5 * i);
        }
        Due.is("6: no room", x.feed(4, 32, 32, 32, 32, 32), HatDownTheStreet.FULL);
        Due.is("6: bytes ahead of room", x.feed(4, 256, 32, 32, 32, 32), HatDownTheStreet.BAD);
        Due.is("6: none came", x.count(7), 157);
        Due.is("6: just room", x.feed(3, 32, 32, 32, 32, 32), 160);
        Due.is("6: full", x.feed(1, 32, 32, 32, 32, 32), HatDownTheStreet.FULL);
    }

    private static void texts() {
        HatDownTheStreet x = new HatDownTheStreet();
        Due.is("7: a fault", Due.text(x, "goes 8;turns 8;worth ;"), -121);
        Due.is("7: the tape is empty behind it", x.count(7), 0);
        Due.is("7: no text came", x.count(5), 1);
        for (int t = 1; t < 6; t++) {
            Due.is("7: number", Due.text(x, "goes " + t + ";turns 1;worth 1;"), t);
            Due.is("7: the tape is empty", x.count(7), 0);
        }
        Due.is("7: texts", x.count(5), 6);
        x.feed(1, 'A', 0, 0, 0, 0);
        Due.is("7: full ahead of the fault", x.text(), HatDownTheStreet.FULL);
        Due.is("7: the tape stays", x.count(7), 1);
        Due.is("7: the law stays", x.count(6), 0);
        for (int t = 1; t < 6; t++) {
            x.force(t);
            Due.is("7: each is its own", x.asks(0, 0, 0, 0, 0), t);
        }
        x.force(0);
        Due.is("7: text 0 stays", x.asks(0, 70, 0, 0, 0), 7);
    }

    private static void fault(String text, int place) {
        HatDownTheStreet x = new HatDownTheStreet();
        Due.is("7: fault of '" + text + "'", Due.text(x, text), place < 0 ? 1 : -100 - place);
    }

    private static void faults() {
        fault("", 0);
        fault("  \n", 3);
        fault("goes", 4);
        fault("goes ", 5);
        fault("goes 1;turns 1;worth 1", 22);
        fault("goes 1;turns 1;worth 1;", -1);
        fault(" goes1\n;turns\n1;worth1 ; \n ", -1);
        fault("goes 1;turns 1;worth 1;;", 23);
        fault("goes 1;turns 1;worth 1; x", 24);
        fault("turns 1;goes 1;worth 1;", 0);
        fault("goes 1;worth 1;turns 1;", 7);
        fault("goes 1;turns 1;turns 1;", 15);
        fault("goes 1;goes 1;worth 1;", 7);
        fault("goesstrength;turns 1;worth 1;", 0);
        fault("goesz 1;turns 1;worth 1;", 0);
        fault("goesa 1;turns 1;worth 1;", 0);
        fault("goes 1;turns 1;worth 1;\0", 23);
        fault("goes 1\u00ff;turns 1;worth 1;", 6);
        fault("goes 1`;turns 1;worth 1;", 6);
        fault("goes 1{;turns 1;worth 1;", 6);
        fault("goes /;turns 1;worth 1;", 5);
        fault("goes :;turns 1;worth 1;", 5);
        fault(";".repeat(160), 0);
        fault("(".repeat(160), 0);
        fault("goes" + "1+".repeat(70) + "1;turns1;worth1", 159);
        fault("goes" + "1+".repeat(70) + "1;turns1;worth1;", -1);
        fault("goes" + "- ".repeat(70) + "1;turns1;worth1;", 14);
        fault("goes wind;turns 1;worth 1;", 5);
        fault("goes goes;turns 1;worth 1;", 5);
        fault("goes Strength;turns 1;worth 1;", 5);
        fault("goes 1\t;turns 1;worth 1;", 6);
        fault("goes 1\r;turns 1;worth 1;", 6);
        fault("goes 9999;turns 1;worth 1;", -1);
        fault("goes 00001;turns 1;worth 1;", 5);
        fault("goes 1 2;turns 1;worth 1;", 7);
        fault("goes 12ab;turns 1;worth 1;", 7);
        fault("goes 1more;turns 1;worth 1;", 6);
        fault("goes 1 + ;turns 1;worth 1;", 9);
        fault("goes 1 + not 1;turns 1;worth 1;", 9);
        fault("goes 1 < 2 < 3;turns 1;worth 1;", 11);
        fault("goes 1 = 2 < 3;turns 1;worth 1;", 11);
        fault("goes 1 < not 2;turns 1;worth 1;", 9);
        fault("goes (1 < 2) < 3;turns 1;worth 1;", -1);
        fault("goes not 1 < 2 and not not 0 or 1;turns 1;worth 1;", -1);
        fault("goes - not 1;turns 1;worth 1;", 7);
        fault("goes +1;turns 1;worth 1;", 5);
        fault("goes 1 - - 1;turns 1;worth 1;", -1);
        fault("goes 2 * - 1;turns 1;worth 1;", -1);
        fault("goes ();turns 1;worth 1;", 6);
        fault("goes (1;turns 1;worth 1;", 7);
        fault("goes 1);turns 1;worth 1;", 6);
        fault("goes 1 or or 1;turns 1;worth 1;", 10);
        fault("goes 1 and;turns 1;worth 1;", 10);
        fault("goes 1/2;turns 1;worth 1;", 6);
        fault("goes 1 > 2;turns 1;worth 1;", 7);
        fault("goes 1 2 ?;turns 1;worth 1;", 7);
        StringBuilder long160 = new StringBuilder("goes 1;turns 1;worth 1");
        while (long160.length() < 159) {
            long160.append(' ');
        }
        fault(long160 + ";", -1);
        fault(long160 + "1", 159);
    }

    private static void opens() {
        String tail = ";turns 1;worth 1;";
        fault("goes (((((1)))))" + tail, -1);
        fault("goes ((((((1))))))" + tail, 10);
        fault("goes -----1" + tail, -1);
        fault("goes ------1" + tail, 10);
        fault("goes not not not not not 1" + tail, -1);
        fault("goes not not not not not not 1" + tail, 25);
        fault("goes not(-(-1))" + tail, -1);
        fault("goes not(-(-(1)))" + tail, 12);
        fault("goes not(-(-(1)))".replace("not", "") + tail, -1);
        fault("goes ((((1)+(1))))+((((1))))" + tail, -1);
        fault("goes ((((1+(-1)))))" + tail, 12);
        fault("goes ((((1)+-1)))" + tail, -1);
        fault("goes not 1 + -1 and not ((((1))))" + tail, -1);
        fault("goes not ((((1 < -1))))" + tail, 17);
        fault("goes not ((((1)))) and -----1" + tail, -1);
        fault("goes ((((not 1 and not 1))))" + tail, -1);
        fault("goes ((((not 1 and not -1))))" + tail, 23);
        // The most that can wait for a right side at once.
        fault("goes 1or1and1<1+1*(1or1and1<1+1*(1or1and1<1+1*(1or1and1<1+1*(1or1and1<1+1*(1or1and1<1+1*1)))))" + tail, -1);
    }

    private static void force() {
        HatDownTheStreet x = new HatDownTheStreet();
        Due.is("8: text 0", x.force(0), 0);
        Due.is("8: none yet", x.force(1), HatDownTheStreet.BAD);
        Due.text(x, "goes 1;turns 1;worth 1;");
        Due.is("8: text 1", x.force(1), 0);
        Due.is("8: which was", x.force(0), 1);
        Due.is("8: below", x.force(-1), HatDownTheStreet.BAD);
        Due.is("8: above", x.force(2), HatDownTheStreet.BAD);
        Due.is("8: the law stays", x.count(6), 0);
    }

    private static void asks() {
        HatDownTheStreet x = new HatDownTheStreet();
        Due.is("9: goes", x.asks(0, 92, 95, 24, 31), 9);
        Due.is("9: turns", x.asks(1, 0, 0, 0, 0), 1);
        Due.is("9: worth", x.asks(2, 0, 0, 24, 0), 6);
        Due.is("9: worth at once", x.asks(2, 0, 0, 0, 0), 30);
        int[][] bad = {
            {-1, 0, 0, 0, 0}, {3, 0, 0, 0, 0}, {0, -1, 0, 0, 0}, {0, 3, 0, 0, 0}, {0, 93, 0, 0, 0}, {0, 100, 0, 0, 0},
            {0, 0, -1, 0, 0}, {0, 0, 6, 0, 0}, {0, 0, 96, 0, 0}, {0, 0, 100, 0, 0}, {0, 0, 0, -1, 0}, {0, 0, 0, 25, 0},
            {0, 0, 0, 0, -1}, {0, 0, 0, 0, 32}};
        for (int[] b : bad) {
            Due.is("9: none such", x.asks(b[0], b[1], b[2], b[3], b[4]), -1000);
        }
        x = Due.withLaw("goes lie+2*more;turns kind;worth cell+100*second-strength;");
        Due.is("9: names", x.asks(0, 92, 35, 7, 31), 8);
        Due.is("9: goes has a bound", x.asks(0, 92, 95, 7, 31), 9);
        Due.is("9: turns modulo 3", x.asks(1, 92, 95, 7, 31), 2);
        Due.is("9: worth", x.asks(2, 90, 0, 0, 31), 22);
        Due.is("9: worth has a bound", x.asks(2, 90, 0, 2, 31), 99);
        Due.walls(x, 31);
        Due.is("9: also of a wall's square", x.asks(2, 90, 0, 0, 31), 22);
        x = Due.withLaw("goes -1;turns -second;worth -second*10;");
        Due.is("9: goes not below 0", x.asks(0, 0, 0, 0, 0), 0);
        Due.is("9: turns of -1", x.asks(1, 0, 0, 1, 0), 2);
        Due.is("9: turns of -3", x.asks(1, 0, 0, 3, 0), 0);
        Due.is("9: worth has a lower bound", x.asks(2, 0, 0, 24, 0), -99);
    }

    private static void value(String e, int worth) {
        HatDownTheStreet x = Due.withLaw("goes 0;turns 0;worth " + e + ";");
        Due.is("9: worth of " + e, x.asks(2, 41, 73, 24, 19), worth);
    }

    private static void values() {
        value("1+2*3", 7);
        value("(1+2)*3", 9);
        value("10-3-2", 5);
        value("10-(3-2)", 9);
        value("-2*-3", 6);
        value("--2", 2);
        value("2-3", -1);
        value("1<2", 1);
        value("2<2", 0);
        value("-1<0", 1);
        value("2=2", 1);
        value("1+1=2", 1);
        value("2=1+2", 0);
        value("5 or 0", 1);
        value("0 or 0", 0);
        value("5 and 7", 1);
        value("5 and 0", 0);
        value("0 and 0 or 1", 1);
        value("1 or 0 and 0", 1);
        value("(1 or 0) and 0", 0);
        value("not 0", 1);
        value("not 5", 0);
        value("not not 5", 1);
        value("not 1 = 2", 1);
        value("(not 1) = 0", 1);
        value("not 0 and 0", 0);
        value("not (0 and 0)", 1);
        value("strength", 4);
        value("lie", 1);
        value("more", 7);
        value("kind", 3);
        value("second", 24);
        value("cell", 19);
        value("0007", 7);
        // 32 bits, wrapping: -1027349969.
        value("9999*9999*9999 < 0", 1);
        value("9999*9999*9999 + 9999*9999*10 + 9999*2761 - 9999*10 = 0", 0);
        value("2048*2048*1024", 0);
        value("1024*1024*2048 < 0 and 1024*1024*2048 = -(1024*1024*2048)", 1);
        value("1or1and1<1+1*(1or1and1<1+1*(1or1and1<1+1*(1or1and1<1+1*(1or1and1<1+1*(0or1and1<1+1*7)))))", 1);
        value("7-2*(3+4*(1-2*(2+3*(1-5*(2-3*9)))))", 99);
    }
}
