/** Promises 37 to 42: told ways. */
public final class ToldTest {
    private static final int RIGHT = 10, DOWN = 20;
    private static final int BAD = HatDownTheStreet.BAD;
    private static final int CAP = 20;
    private static final int[] NO_SUCH = {-1, 1, 4, Integer.MIN_VALUE, Integer.MAX_VALUE};
    private static final String LIKEWISE = "BAD, -11, BAD, -5 likewise";

    public static void main(String[] args) {
        refusals();
        judge();
        judgeEdges();
        whose();
        lay();
        layEdges();
        kinds();
        kindsEdges();
        laws();
        film();
        filmEdges();
        filmRefused();
        Due.end();
    }

    private static long ask(HatDownTheStreet x, int call, int s, int h) {
        switch (call) {
            case 37: return x.judge(s, h);
            case 38: return x.whose(s);
            case 39: return x.lay(s, h);
            case 40: return x.kinds(s, h, 0);
            default: return x.laws(s, h);
        }
    }

    /** Of a cap that stays in square 0, and of a sheet that tells so. */
    private static void refusals() {
        int[] due = {-1, 1, 7, 63, 1};
        for (int call = 37; call <= 41; call++) {
            Due.of("Promise " + call, call == 37 ? "BAD: SHEET; -11; BAD: it tells more than 25; -5: no such HAT."
                : call == 38 ? "BAD, -11, BAD likewise." : LIKEWISE);
            HatDownTheStreet x = new HatDownTheStreet();
            for (int s : new int[] {-1, 4, Integer.MIN_VALUE, Integer.MAX_VALUE}) {
                Due.is("sheet " + s, ask(x, call, s, 0), BAD);
            }
            for (int s = 0; s < 4; s++) {
                Due.is("missing, ahead of the hat", ask(x, call, s, 0), -11);
            }
            for (int sort = 0; sort <= 2; sort++) {
                x.sheet(3, sort, 26);
                Due.is("more than 25, ahead of the hat", ask(x, call, 3, 0), BAD);
                x.sheet(3, sort, 40);
                Due.is("40, ahead of the hat", ask(x, call, 3, 0), BAD);
            }
            x.sheet(3, 0, 25);
            Due.is("no hat", ask(x, call, 3, 0), call == 38 ? 0 : -5);
            x.hat(CAP, 0, 0);
            Due.is("25 are right", ask(x, call, 3, 0), due[call - 37]);
            x.sheet(3, 0, 26);
            Due.is("26 are not", ask(x, call, 3, 0), BAD);
            x.sheet(3, 2, 0);
            Due.is("none are right", ask(x, call, 3, 0), due[call - 37]);
            for (int h : NO_SUCH) {
                Due.is("hat " + h, ask(x, call, 3, h), call == 38 ? 1 : -5);
            }
            x.sheet(3, -1, 0);
            Due.is("missing again", ask(x, call, 3, 0), -11);
        }
    }

    private static void judge() {
        Due.of("Promise 37", "A SHEET tells SQUARES BEHIND 0, 1, .. SECONDS: the first place (from 0) at which a HAT is elsewhere; -1: none.");
        HatDownTheStreet x = new HatDownTheStreet();
        x.hat(CAP, 8, 0);
        x.hat(CAP, 16, 0);
        Due.gusts(x, RIGHT + 1, RIGHT + 1);
        Due.sheet(x, 0);
        Due.is("nothing is told", x.judge(0, 0), -1);
        Due.sheet(x, 0, 8);
        Due.is("where it is", x.judge(0, 0), -1);
        Due.sheet(x, 0, 8, 9, 10, 10);
        Due.is("as it is", x.judge(0, 0), -1);
        Due.is("of the other one not", x.judge(0, 1), 0);
        Due.sheet(x, 0, 8, 9, 10, 11, 10);
        Due.is("elsewhere behind 3", x.judge(0, 0), 3);
        Due.sheet(x, 0, 9, 9);
        Due.is("elsewhere at first", x.judge(0, 0), 0);
        Due.sheet(x, 0, 8, 8, 9);
        Due.is("the first of two", x.judge(0, 0), 1);
        Due.sheet(x, 1, 16, 17, 18);
        Due.is("of the other one", x.judge(1, 1), -1);
    }

    private static void judgeEdges() {
        Due.of("Promise 37", "the first place (from 0) at which a HAT is elsewhere; -1: none.");
        HatDownTheStreet x = new HatDownTheStreet();
        x.hat(CAP, 8, 0);
        x.blow(23, 2, 1);
        for (int sort = 0; sort <= 2; sort++) {
            x.sheet(sort, sort, 25);
            for (int i = 0; i < 24; i++) {
                x.cell(sort, i, 8);
            }
            Due.is("behind 24 it is elsewhere", x.judge(sort, 0), 24);
            x.cell(sort, 24, 16);
            Due.is("all 25", x.judge(sort, 0), -1);
            x.cell(sort, 23, 16);
            Due.is("behind 23 it is not", x.judge(sort, 0), 23);
            x.cell(sort, 0, 32);
            Due.is("no square is no matter", x.judge(sort, 0), 0);
            x.cell(sort, 0, -1);
            Due.is("below 0, too", x.judge(sort, 0), 0);
        }
        Due.of("Promise 48", "(of bytes, shorts its lowest 8, 16 bits)");
        x.set(0, 0, 31);
        int[][] seen = {{31 + 256, -1, 0, 0}, {31 - 256, -1, 0, 0}, {31 + 65536, -1, -1, 0}, {31 - 65536, -1, -1, 0}, {31 + 128, 0, 0, 0}, {31, -1, -1, -1}};
        for (int[] v : seen) {
            for (int sort = 0; sort <= 2; sort++) {
                Due.sheetOf(x, 3, sort, v[0]);
                Due.is(v[0] + " of sort " + sort, x.judge(3, 0), v[1 + sort]);
            }
        }
    }

    private static void whose() {
        Due.of("Promise 38", "HATS (bits) of which that is -1.");
        HatDownTheStreet x = new HatDownTheStreet();
        Due.sheet(x, 0);
        Due.is("no hats", x.whose(0), 0);
        x.hat(0, 8, 1);
        x.hat(10, 8, 1);
        x.hat(20, 8, 1);
        x.hat(40, 8, 2);
        Due.is("nothing is told", x.whose(0), 15);
        Due.gusts(x, RIGHT + 1);
        Due.sheet(x, 0, 8, 9);
        Due.is("all but the bowler", x.whose(0), Due.bits(0, 2, 3));
        Due.sheet(x, 0, 8, 10);
        Due.is("the bowler", x.whose(0), Due.bits(1));
        Due.sheet(x, 0, 9);
        Due.is("none", x.whose(0), 0);
        x.set(3, 0, 31);
        Due.sheet(x, 0, 31, 31);
        Due.is("the last", x.whose(0), Due.bits(3));
    }

    private static void lay() {
        Due.of("Promise 39", "How it could LIE now (bits 0 .. 2), in some SQUARE without WALL, so that it would be -1 of it.");
        HatDownTheStreet x = new HatDownTheStreet();
        x.hat(10, 31, 0);
        Due.gusts(x, RIGHT + 3);
        Due.sheet(x, 0, 8, 9);
        Due.is("on its crown", x.lay(0, 0), Due.bits(0));
        Due.sheet(x, 0, 8, 11);
        Due.is("on its brim", x.lay(0, 0), Due.bits(2));
        Due.sheet(x, 0, 8, 12);
        Due.is("on its rim", x.lay(0, 0), Due.bits(1));
        Due.sheet(x, 0, 12, 15);
        Due.is("on its rim or brim", x.lay(0, 0), Due.bits(1, 2));
        Due.sheet(x, 0, 8, 13);
        Due.is("not at all", x.lay(0, 0), 0);
        Due.is("it lies as it does", x.told(0, 1), 0);
        Due.is("and is where it is", x.told(0, 0), 31);
    }

    private static void layEdges() {
        Due.of("Promise 39", "How it could LIE now (bits 0 .. 2), in some SQUARE without WALL, so that it would be -1 of it.");
        HatDownTheStreet x = new HatDownTheStreet();
        x.hat(10, 8, 0);
        x.hat(10, 9, 0);
        x.come(0, 0, 0);
        Due.gusts(x, RIGHT + 3);
        Due.sheet(x, 0);
        Due.is("nothing is told", x.lay(0, 0), 7);
        Due.sheet(x, 0, 31, 31);
        Due.is("in the last square", x.lay(0, 0), 7);
        Due.sheet(x, 0, 0, 1);
        Due.is("in the first square, where a catcher is", x.lay(0, 0), Due.bits(0));
        Due.sheet(x, 0, 9, 10);
        Due.is("where another hat is", x.lay(0, 0), Due.bits(0));
        Due.sheet(x, 0, 7, 7);
        Due.is("it stays at the edge", x.lay(0, 0), 7);
        Due.walls(x, 7, 12);
        Due.is("not in a wall", x.lay(0, 0), 0);
        Due.sheet(x, 0, 12, 12);
        Due.is("nor in that one", x.lay(0, 0), 0);
        Due.sheet(x, 0, 11);
        Due.is("beside it", x.lay(0, 0), 7);
        Due.puddles(x, 20);
        Due.sheet(x, 0, 20, 20);
        Due.is("in a puddle", x.lay(0, 0), 7);
    }

    private static void kinds() {
        Due.of("Promise 40", "KINDS (sort 0; bits 0 .. 5), MORE (1; bits 0 .. 9) by which, were they its own, all else being as it is, it would be -1.");
        HatDownTheStreet x = new HatDownTheStreet();
        x.hat(4, 8, 1);
        Due.gusts(x, RIGHT + 2);
        Due.sheet(x, 0, 8, 10);
        Due.is("a hat", x.kinds(0, 0, 0), Due.bits(0));
        Due.is("of any more", x.kinds(0, 0, 1), 1023);
        Due.sheet(x, 0, 8, 12);
        Due.is("a bowler, a ball, a leaf", x.kinds(0, 0, 0), Due.bits(1, 3, 4));
        Due.is("of no more", x.kinds(0, 0, 1), 0);
        Due.sheet(x, 0, 8, 9);
        Due.is("a cap", x.kinds(0, 0, 0), Due.bits(2));
        Due.sheet(x, 0, 8, 8);
        Due.is("a wet one", x.kinds(0, 0, 0), Due.bits(5));
        Due.sheet(x, 0, 8);
        Due.is("any kind", x.kinds(0, 0, 0), 63);
        Due.sheet(x, 0, 9);
        Due.is("no kind", x.kinds(0, 0, 0), 0);
        x = new HatDownTheStreet();
        x.hat(10, 8, 1);
        Due.gusts(x, RIGHT + 2);
        Due.sheet(x, 0, 8, 11);
        Due.is("more of 0 .. 3", x.kinds(0, 0, 1), Due.bits(0, 1, 2, 3));
        Due.sheet(x, 0, 8, 12);
        Due.is("more of 4 .. 7", x.kinds(0, 0, 1), Due.bits(4, 5, 6, 7));
        Due.sheet(x, 0, 8, 13);
        Due.is("more of 8, 9", x.kinds(0, 0, 1), Due.bits(8, 9));
        Due.is("its kind stays", x.told(0, 2), 1);
        Due.is("its more stays", x.told(0, 3), 0);
    }

    private static void kindsEdges() {
        Due.of("Promise 40", "by which, were they its own, all else being as it is, it would be -1.");
        // A text that asks for the kind and for more is told those supposed.
        HatDownTheStreet x = Due.withLaw("goes 1 + (kind = 0) + 2 * (more = 7);turns 0;worth 0;");
        x.hat(40, 8, 2);
        Due.gusts(x, RIGHT);
        Due.sheet(x, 0, 8, 10);
        Due.is("the text knows the kind", x.kinds(0, 0, 0), Due.bits(0, 3));
        Due.sheet(x, 0, 8, 14);
        Due.is("and more", x.kinds(0, 0, 1), Due.bits(7));
        x = Due.withLaw("goes (kind = 5) * (more + 1);turns 0;worth 0;");
        x.hat(59, 8, 2);
        Due.gusts(x, RIGHT);
        Due.sheet(x, 0, 8, 9);
        Due.is("wet ones with 0 .. 8 go 1", x.kinds(0, 0, 1), 511);
        Due.sheet(x, 0, 8, 8);
        Due.is("one with 9 doesn't, as the text says 9 at most", x.kinds(0, 0, 1), Due.bits(9));
        Due.is("nor any other kind but those on a rim", x.kinds(0, 0, 0), Due.bits(0, 1, 2, 4, 5));
        Due.of("Promise 40", "-7: sort.");
        for (int sort : new int[] {-1, 2, Integer.MIN_VALUE, Integer.MAX_VALUE}) {
            Due.is("sort " + sort, x.kinds(0, 0, sort), -7);
            Due.is("hat ahead of sort", x.kinds(0, 1, sort), -5);
            Due.is("missing ahead of sort", x.kinds(1, 0, sort), -11);
            Due.is("sheet ahead of sort", x.kinds(4, 0, sort), BAD);
        }
        x.sheet(1, 0, 26);
        Due.is("more than 25 ahead of sort", x.kinds(1, 0, 2), BAD);
    }

    private static void laws() {
        Due.of("Promise 41", "TEXTS (bits), were they THE LAW, by which it would be -1.");
        HatDownTheStreet x = new HatDownTheStreet();
        x.hat(0, 8, 1);
        Due.gusts(x, RIGHT + 2, RIGHT + 2);
        Due.sheet(x, 0, 8, 10, 12);
        Due.is("text 0", x.laws(0, 0), Due.bits(0));
        Due.text(x, "goes 2;turns 0;worth 0;");
        Due.text(x, "goes 2;turns 2;worth 0;");
        Due.text(x, "goes 1;turns 0;worth 0;");
        Due.is("of four", x.laws(0, 0), Due.bits(0, 1));
        x.force(3);
        Due.is("whatever THE LAW is", x.laws(0, 0), Due.bits(0, 1));
        Due.is("THE LAW stays", x.count(6), 3);
        Due.sheet(x, 0, 8, 10, 10);
        Due.is("on its crown", x.laws(0, 0), Due.bits(2));
        Due.sheet(x, 0, 8, 9, 10);
        Due.is("one by one", x.laws(0, 0), Due.bits(3));
        Due.sheet(x, 0, 9);
        Due.is("none", x.laws(0, 0), 0);
        Due.sheet(x, 0);
        Due.is("all of four", x.laws(0, 0), 15);
        Due.text(x, "goes 1;turns 0;worth 0");
        Due.is("a fault is no text", x.laws(0, 0), 15);
        Due.text(x, "goes 3;turns 0;worth 0;");
        Due.text(x, "goes 4;turns 0;worth 0;");
        Due.is("all of six", x.laws(0, 0), 63);
        Due.sheet(x, 0, 8, 12);
        Due.is("the last", x.laws(0, 0), Due.bits(5));
    }

    private static void film() {
        Due.of("Promise 42", "A SHEET truly becomes n (0 .. 25) of these (ints): n.");
        HatDownTheStreet x = new HatDownTheStreet();
        x.hat(CAP, 8, 0);
        x.hat(CAP, 1, 0);
        Due.gusts(x, RIGHT + 1, DOWN + 1);
        x.sheet(0, 0, 30);
        Due.is("three", x.film(0, 0, 3), 3);
        Due.is("three places", x.cell(0, 3, 0), -12);
        Due.is("not bytes", x.gustsBy(0, 0, 0, 0), -13);
        Due.is("but ints", x.gustsBy(0, 2, 0, 0), 0);
        Due.is("its way", x.judge(0, 0), -1);
        Due.sheet(x, 1, 8, 9, 17);
        Due.is("as told", x.whose(1), Due.bits(0));
        for (int i = 0; i < 3; i++) {
            for (int h = 0; h < 2; h++) {
                x.film(0, h, 3);
                x.cell(0, i, 31);
                Due.is("each place", x.judge(0, h), i);
            }
        }
        // Squares 1, 2, 10 are the gust of second 1, by way 2, but too strong; 1, 1, 1 are one.
        x.film(0, 1, 3);
        Due.is("no gust of it", x.gustsBy(0, 2, 0, 1), 0);
        x.set(1, 0, 7);
        x.blow(1, 4, 0);
        x.set(1, 0, 1);
        x.blow(0, 4, 0);
        Due.is("again", x.film(0, 1, 3), 3);
        Due.is("a gust of it", x.gustsBy(0, 2, 0, 1), 1);
        Due.is("of second 1", x.wind(1), 11);
    }

    private static void filmEdges() {
        Due.of("Promise 42", "A SHEET truly becomes n (0 .. 25) of these (ints): n.");
        HatDownTheStreet x = new HatDownTheStreet();
        x.hat(CAP, 8, 0);
        x.blow(23, 2, 1);
        for (int s = 0; s < 4; s++) {
            for (int n : new int[] {25, 0, 1, 24}) {
                Due.is("film of " + n, x.film(s, 0, n), n);
                Due.is("its way", x.judge(s, 0), -1);
                Due.is("no more than " + n, x.cell(s, n, 0), -12);
                if (n > 0) {
                    Due.is("the last place", x.cell(s, n - 1, 15), 1);
                    Due.is("is elsewhere", x.judge(s, 0), n - 1);
                }
            }
        }
        x.film(0, 0, 25);
        x.cell(0, 24, 8);
        Due.is("behind 24 it is in 16", x.judge(0, 0), 24);
        // What is asked of it, or changed behind it, leaves the sheet as it is.
        x.film(0, 0, 25);
        x.blow(0, 1, 1);
        Due.is("it tells the way that was", x.judge(0, 0), 1);
        x.sheet(1, 2, 40);
        x.cell(1, 1, 9);
        Due.is("another sheet stays", x.copy(1, 1, 0, 0, 1), 1);
        Due.is("nothing of it came", x.judge(0, 0), 0);
    }

    private static void filmRefused() {
        Due.of("Promise 42", "BAD: SHEET; -5: no such HAT; -7: n.");
        HatDownTheStreet x = new HatDownTheStreet();
        Due.is("no hat ahead of n", x.film(0, 0, 26), -5);
        x.hat(CAP, 8, 0);
        for (int s : new int[] {-1, 4, Integer.MIN_VALUE, Integer.MAX_VALUE}) {
            Due.is("sheet " + s, x.film(s, 0, 0), BAD);
            Due.is("sheet ahead of hat", x.film(s, 1, 0), BAD);
            Due.is("sheet ahead of n", x.film(s, 0, 26), BAD);
        }
        for (int n : new int[] {-1, 26, Integer.MIN_VALUE, Integer.MAX_VALUE}) {
            Due.is("n " + n, x.film(0, 0, n), -7);
            for (int h : NO_SUCH) {
                Due.is("hat " + h, x.film(0, h, 0), -5);
                Due.is("hat ahead of n", x.film(0, h, n), -5);
            }
        }
        Due.is("still missing", x.cell(0, 0, 0), -11);
    }
}
