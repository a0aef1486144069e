/** Promises 37 to 42: told ways. */
public final class ToldTest {
    private static final int RIGHT = 10, DOWN = 20;

    public static void main(String[] args) {
        refusals();
        judge();
        whose();
        lay();
        kinds();
        laws();
        film();
        Due.end();
    }

    private static long ask(HatDownTheStreet x, int call, int s, int h) {
        switch (call) {
            case 37: return x.judge(s, h);
            case 38: return x.whose(s);
            case 39: return x.lay(s, h);
            case 40: return x.kinds(s, h, 2);
            default: return x.laws(s, h);
        }
    }

    private static void refusals() {
        for (int call = 37; call <= 41; call++) {
            HatDownTheStreet x = new HatDownTheStreet();
            Due.is(call + ": sheet below", ask(x, call, -1, 0), HatDownTheStreet.BAD);
            Due.is(call + ": sheet above", ask(x, call, 4, 0), HatDownTheStreet.BAD);
            Due.is(call + ": missing", ask(x, call, 3, 0), -11);
            x.sheet(3, 0, 26);
            Due.is(call + ": more than 25, ahead of the hat", ask(x, call, 3, 0), HatDownTheStreet.BAD);
            x.sheet(3, 0, 25);
            Due.is(call + ": no hat", ask(x, call, 3, 0), call == 38 ? 0 : -5);
            Due.is(call + ": hat below", ask(x, call, 3, -1), call == 38 ? 0 : -5);
            x.hat(0, 0, 0);
            Due.is(call + ": 25 are right", ask(x, call, 3, 0), call == 37 ? -1 : call == 39 ? 7 : call == 40 ? -7 : 1);
            Due.is(call + ": hat above", ask(x, call, 3, 1), call == 38 ? 1 : -5);
        }
    }

    private static void judge() {
        HatDownTheStreet x = new HatDownTheStreet();
        x.hat(20, 8, 0);
        Due.gusts(x, RIGHT + 1, RIGHT + 1);
        Due.sheet(x, 0);
        Due.is("37: nothing is told", x.judge(0, 0), -1);
        Due.sheet(x, 0, 8, 9, 10, 10);
        Due.is("37: as it is", x.judge(0, 0), -1);
        Due.sheet(x, 0, 8, 9, 10, 11, 10);
        Due.is("37: elsewhere behind 3", x.judge(0, 0), 3);
        Due.sheet(x, 0, 9, 9);
        Due.is("37: elsewhere at first", x.judge(0, 0), 0);
        Due.sheet(x, 0, 8 + 256, 9);
        Due.is("37: ints are whole", x.judge(0, 0), 0);
        x.sheet(1, 0, 2);
        x.cell(1, 0, 8 + 256);
        x.cell(1, 1, 9 - 256);
        Due.is("37: of bytes the lowest 8 bits", x.judge(1, 0), -1);
        x.sheet(1, 1, 2);
        x.cell(1, 0, 8 + 65536);
        x.cell(1, 1, 9 + 256);
        Due.is("37: of shorts the lowest 16", x.judge(1, 0), 1);
        x.blow(23, 2, 1);
        x.film(2, 0, 25);
        Due.is("37: 25", x.judge(2, 0), -1);
        x.cell(2, 24, 10);
        Due.is("37: the last", x.judge(2, 0), 24);
    }

    private static void whose() {
        HatDownTheStreet x = new HatDownTheStreet();
        Due.sheet(x, 0);
        Due.is("38: no hats", x.whose(0), 0);
        x.hat(0, 8, 1);
        x.hat(10, 8, 1);
        x.hat(20, 8, 1);
        x.hat(40, 8, 2);
        Due.is("38: nothing is told", x.whose(0), 15);
        Due.gusts(x, RIGHT + 1);
        Due.sheet(x, 0, 8, 9);
        Due.is("38: all but the bowler", x.whose(0), 13);
        Due.sheet(x, 0, 8, 10);
        Due.is("38: the bowler", x.whose(0), 2);
        Due.sheet(x, 0, 9);
        Due.is("38: none", x.whose(0), 0);
    }

    private static void lay() {
        HatDownTheStreet x = new HatDownTheStreet();
        x.hat(10, 31, 0);
        Due.gusts(x, RIGHT + 3);
        Due.sheet(x, 0, 8, 9);
        Due.is("39: on its crown", x.lay(0, 0), 1);
        Due.sheet(x, 0, 8, 11);
        Due.is("39: on its brim", x.lay(0, 0), 4);
        Due.sheet(x, 0, 8, 12);
        Due.is("39: on its rim", x.lay(0, 0), 2);
        Due.sheet(x, 0, 13, 15);
        Due.is("39: on its rim or brim", x.lay(0, 0), 6);
        Due.sheet(x, 0, 8, 13);
        Due.is("39: not at all", x.lay(0, 0), 0);
        Due.sheet(x, 0);
        Due.is("39: nothing is told", x.lay(0, 0), 7);
        Due.sheet(x, 0, 31, 31);
        Due.is("39: in the last square", x.lay(0, 0), 7);
        Due.sheet(x, 0, 7, 7);
        Due.is("39: it stays at the edge", x.lay(0, 0), 7);
        Due.walls(x, 7);
        Due.is("39: not in a wall", x.lay(0, 0), 0);
        Due.is("39: it lies as it does", x.told(0, 1), 0);
        Due.is("39: and is where it is", x.told(0, 0), 31);
    }

    private static void kinds() {
        HatDownTheStreet x = new HatDownTheStreet();
        x.hat(4, 8, 1);
        Due.gusts(x, RIGHT + 2);
        Due.sheet(x, 0, 8, 10);
        Due.is("40: a hat", x.kinds(0, 0, 0), 1);
        Due.sheet(x, 0, 8, 12);
        Due.is("40: a bowler, a ball, a leaf", x.kinds(0, 0, 0), 2 | 8 | 16);
        Due.sheet(x, 0, 8, 9);
        Due.is("40: a cap", x.kinds(0, 0, 0), 4);
        Due.sheet(x, 0, 8, 8);
        Due.is("40: a wet one", x.kinds(0, 0, 0), 32);
        Due.is("40: of no more", x.kinds(0, 0, 1), 0);
        Due.sheet(x, 0, 8, 10);
        Due.is("40: of any more", x.kinds(0, 0, 1), 1023);
        x = new HatDownTheStreet();
        x.hat(10, 8, 1);
        Due.gusts(x, RIGHT + 2);
        Due.sheet(x, 0, 8, 12);
        Due.is("40: more of 4 .. 7", x.kinds(0, 0, 1), 0xF0);
        Due.sheet(x, 0, 8, 13);
        Due.is("40: more of 8, 9", x.kinds(0, 0, 1), 0x300);
        Due.sheet(x, 0, 9);
        Due.is("40: none", x.kinds(0, 0, 1), 0);
        Due.is("40: sort below", x.kinds(0, 0, -1), -7);
        Due.is("40: sort above", x.kinds(0, 0, 2), -7);
        Due.is("40: hat ahead of sort", x.kinds(0, 1, 2), -5);
        Due.is("40: its kind stays", x.told(0, 2), 1);
        Due.is("40: its more stays", x.told(0, 3), 0);
        // A text that asks for the kind and for more is told those supposed.
        x = Due.withLaw("goes 1 + (kind = 0) + 2 * (more = 7);turns 0;worth 0;");
        x.hat(40, 8, 2);
        Due.gusts(x, RIGHT);
        Due.sheet(x, 0, 8, 10);
        Due.is("40: the text knows the kind", x.kinds(0, 0, 0), 1 | 8);
        Due.sheet(x, 0, 8, 14);
        Due.is("40: and more", x.kinds(0, 0, 1), 128);
    }

    private static void laws() {
        HatDownTheStreet x = new HatDownTheStreet();
        x.hat(0, 8, 1);
        Due.gusts(x, RIGHT + 2, RIGHT + 2);
        Due.sheet(x, 0, 8, 10, 12);
        Due.is("41: text 0", x.laws(0, 0), 1);
        Due.text(x, "goes 2;turns 0;worth 0;");
        Due.text(x, "goes 2;turns 2;worth 0;");
        Due.text(x, "goes 1;turns 0;worth 0;");
        Due.is("41: of four", x.laws(0, 0), 3);
        x.force(3);
        Due.is("41: whatever the law is", x.laws(0, 0), 3);
        Due.is("41: the law stays", x.count(6), 3);
        Due.sheet(x, 0, 8, 10, 10);
        Due.is("41: on its crown", x.laws(0, 0), 4);
        Due.sheet(x, 0, 8, 9, 10);
        Due.is("41: one by one", x.laws(0, 0), 8);
        Due.sheet(x, 0, 9);
        Due.is("41: none", x.laws(0, 0), 0);
        Due.sheet(x, 0);
        Due.is("41: all", x.laws(0, 0), 15);
    }

    private static void film() {
        HatDownTheStreet x = new HatDownTheStreet();
        Due.is("42: sheet ahead of hat", x.film(4, 0, 0), HatDownTheStreet.BAD);
        Due.is("42: sheet below", x.film(-1, 0, 0), HatDownTheStreet.BAD);
        Due.is("42: no hat", x.film(0, 0, 26), -5);
        x.hat(20, 8, 0);
        Due.is("42: n below", x.film(0, 0, -1), -7);
        Due.is("42: n above", x.film(0, 0, 26), -7);
        Due.is("42: still missing", x.cell(0, 0, 0), -11);
        Due.gusts(x, RIGHT + 1, DOWN + 1);
        x.sheet(0, 0, 30);
        Due.is("42: three", x.film(0, 0, 3), 3);
        Due.is("42: three places", x.cell(0, 3, 0), -12);
        Due.is("42: ints", x.copy(0, 0, 0, 0, 0), 0);
        Due.is("42: not bytes", x.gustsBy(0, 0, 0, 0), -13);
        Due.is("42: but ints", x.gustsBy(0, 2, 0, 0), 0);
        Due.is("42: its way", x.judge(0, 0), -1);
        Due.sheet(x, 1, 8, 9, 17);
        Due.is("42: as told", x.whose(1), 1);
        // Of a hat that goes nowhere else a gust of second 8, way 9 is none; of squares 1, 1, 1 it is one.
        Due.is("42: no gust of it", x.gustsBy(0, 2, 0, 1), 0);
        Due.is("42: 25", x.film(3, 0, 25), 25);
        Due.is("42: the last place", x.cell(3, 24, 17), 1);
        Due.is("42: none", x.film(0, 0, 0), 0);
        Due.is("42: no place", x.cell(0, 0, 0), -12);
        Due.is("42: a row that tells nothing", x.judge(0, 0), -1);
        x = new HatDownTheStreet();
        x.hat(20, 1, 0);
        x.film(0, 0, 3);
        Due.is("42: a gust of it", x.gustsBy(0, 2, 0, 1), 1);
        Due.is("42: of second 1", x.wind(1), 11);
    }
}
