import java.util.ArrayList;
import java.util.List;

/** A street with something of everything on it, and all that can be seen of it: by this is found what changes it. */
final class Furnished {
    /** A bowler in square 9, a leaf in 16, a wet hat in 12, that of the image; catchers in 15, 24, 9. */
    static final int HATS = 3, CATCHERS = 3, TEXTS = 3;
    static final int BYTES = 0, SHORTS = 1, INTS = 2, MISSING = 3;
    static final int[] SIZES = {24, 39, 9, 0};
    static final String TAPE = "goes 2;tur", REST = "ns 0;worth 7;";

    private static List<String> untouched = null;

    private Furnished() {
    }

    static HatDownTheStreet street() {
        HatDownTheStreet x = new HatDownTheStreet();
        keepAnImage(x);
        x.street(0, 7, 0);
        x.street(1, 14, 0);
        x.street(2, 5, 0);
        x.street(0, 3, 1);
        x.street(0, 20, 1);
        x.street(1, 13, 1);
        x.street(2, 17, 1);
        x.street(2, 26, 1);
        x.set(0, 0, 12);
        x.set(0, 1, 2);
        x.hat(15, 9, 1);
        x.hat(43, 16, 2);
        x.does(0, 0, 15);
        x.does(0, 1, 1);
        x.does(0, 2, 0);
        x.come(24, 2, 1);
        x.come(9, 0, 3);
        for (int second = 0; second < 24; second++) {
            x.blow(second, (second + 1) % 5, (second * 7 + 3) % 10);
        }
        Due.text(x, "goes strength+lie;turns 2;worth 50-second*2;");
        Due.text(x, "goes 3;turns lie;worth kind+1;");
        x.force(1);
        Due.feedAll(x, TAPE);
        fillSheets(x);
        return x;
    }

    /** Differs in everything from what comes behind it. */
    private static void keepAnImage(HatDownTheStreet x) {
        x.street(0, 7, 1);
        x.street(1, 14, 1);
        x.street(2, 5, 1);
        x.blow(0, 3, 3);
        x.blow(23, 2, 2);
        x.hat(52, 10, 1);
        x.come(11, 3, 1);
        x.image();
    }

    /** Bytes and shorts that are gusts of seconds 0, 2, 4 .., and of 1, 2, 3 ..; a film of the bowler. */
    private static void fillSheets(HatDownTheStreet x) {
        x.sheet(BYTES, 0, SIZES[BYTES]);
        x.sheet(SHORTS, 1, SIZES[SHORTS]);
        for (int k = 0; k < SIZES[BYTES] / 3; k++) {
            x.cell(BYTES, 3 * k, 2 * k);
            x.cell(BYTES, 3 * k + 2, k);
        }
        for (int k = 0; k < SIZES[SHORTS] / 3; k++) {
            x.cell(SHORTS, 3 * k, k + 1);
            x.cell(SHORTS, 3 * k + 1, k % 5);
        }
        x.film(INTS, 1, SIZES[INTS]);
    }

    /** A check that what was done to a furnished street changed nothing of it; the street is used up by it. */
    static void isAsItWas(String what, HatDownTheStreet x) {
        if (untouched == null) {
            untouched = all(street());
        }
        compare(what, all(x), untouched);
    }

    /** The same of two streets, to one of which something was done. */
    static void areAlike(String what, HatDownTheStreet x, HatDownTheStreet other) {
        compare(what, all(x), all(other));
    }

    static void compare(String what, List<String> is, List<String> was) {
        String first = "";
        for (int i = 0; i < is.size() && first.isEmpty(); i++) {
            if (!is.get(i).equals(was.get(i))) {
                first = ", but " + is.get(i) + " was " + was.get(i);
            }
        }
        Due.holds("nothing is changed by " + what + first, first.isEmpty());
    }

    /** What is only asked, of the second hat and the second catcher. */
    static List<String> asked(HatDownTheStreet x) {
        List<String> seen = new ArrayList<>();
        for (int what = 0; what <= 1; what++) {
            seen.add("at(1, 24, " + what + ") " + x.at(1, 24, what));
            seen.add("round(1, " + what + ") " + x.round(1, what));
            seen.add("keeps(1, 24, " + what + ") " + x.keeps(1, 24, what));
            seen.add("who(1, " + what + ") " + x.who(1, what));
            seen.add("stand(1, 1, " + what + ") " + x.stand(1, 1, what));
            seen.add("order(1, " + what + ") " + x.order(1, what));
            seen.add("whom(1, " + what + ") " + x.whom(1, what));
            seen.add("lull(1, 1, " + what + ") " + x.lull(1, 1, what));
            seen.add("fence(1, 1, " + what + ") " + x.fence(1, 1, what));
            seen.add("kinds(2, 1, " + what + ") " + x.kinds(INTS, 1, what));
            seen.add("odds(7, 9, 11, " + what + ") " + x.odds(7, 9, 11, what));
        }
        seen.add("when(1, 13) " + x.when(1, 13) + ", track(1, 24) " + x.track(1, 24) + ", over(1) " + x.over(1));
        seen.add("from(1, 24, 13) " + x.from(1, 24, 13) + ", held(1, 24, 1) " + x.held(1, 24, 1) + ", save(1) " + x.save(1));
        seen.add("caught(1, 1) " + x.caught(1, 1) + ", wait(1, 1) " + x.wait(1, 1) + ", pace(1, 1, 0) " + x.pace(1, 1, 0));
        seen.add("gain(1, 1) " + x.gain(1, 1) + ", turned(1, 0, 13) " + x.turned(1, 0, 13) + ", drawn(7, 1, 24) " + x.drawn(7, 1, 24));
        seen.add("judge " + x.judge(INTS, 1) + ", whose " + x.whose(INTS) + ", lay " + x.lay(INTS, 1) + ", laws " + x.laws(INTS, 1));
        return seen;
    }

    private static List<String> all(HatDownTheStreet x) {
        List<String> seen = new ArrayList<>();
        seeStreet(x, seen);
        for (int h = 0; h < HATS; h++) {
            seen.add("at(" + h + ", 24) " + x.at(h, 24, 0) + " " + x.at(h, 24, 1));
            for (int p = 0; p < CATCHERS; p++) {
                seen.add("caught(" + h + ", " + p + ") " + x.caught(h, p));
            }
        }
        seeSheets(x, seen);
        seeTexts(x, seen);
        seeCatchers(x, seen);
        seen.add("back() " + x.back());
        seeStreet(x, seen);
        seeCatchers(x, seen);
        return seen;
    }

    private static void seeStreet(HatDownTheStreet x, List<String> seen) {
        for (int what = 0; what < 8; what++) {
            seen.add("count(" + what + ") " + x.count(what));
        }
        for (int second = 0; second < 24; second++) {
            seen.add("wind(" + second + ") " + x.wind(second));
        }
        for (int h = 0; h < 4; h++) {
            for (int what = 0; what < 4; what++) {
                seen.add("told(" + h + ", " + what + ") " + x.told(h, what));
            }
        }
    }

    /** Sees them by putting others in their place. */
    private static void seeCatchers(HatDownTheStreet x, List<String> seen) {
        for (int p = 0; p < 4; p++) {
            for (int what = 0; what < 3; what++) {
                seen.add("does(" + p + ", " + what + ", 2) " + x.does(p, what, 2));
            }
        }
    }

    /** Sees them by letting them blow. */
    private static void seeSheets(HatDownTheStreet x, List<String> seen) {
        seen.add("judge " + x.judge(INTS, 1) + ", whose " + x.whose(INTS));
        for (int s = 0; s < 4; s++) {
            int last = SIZES[s] - 1;
            seen.add("last of sheet " + s + " " + x.copy(s, last, s, last, 1));
            seen.add("behind sheet " + s + " " + x.copy(s, last + 1, s, last + 1, 1));
            for (int sort = 0; sort < 3; sort++) {
                seen.add("sort " + sort + " of sheet " + s + " " + x.gustsBy(s, sort, 0, 0));
            }
        }
        for (int s = 0; s < 2; s++) {
            seen.add("gusts of sheet " + s + " " + x.gustsBy(s, s, 0, SIZES[s] / 3));
            for (int second = 0; second < 24; second++) {
                seen.add("wind(" + second + ") of sheet " + s + " " + x.wind(second));
            }
        }
    }

    private static void seeTexts(HatDownTheStreet x, List<String> seen) {
        seen.add("text of the tape " + Due.text(x, REST));
        for (int t = 0; t < 6; t++) {
            seen.add("force(" + t + ") " + x.force(t));
            seen.add("it goes " + x.asks(0, 52, 34, 5, 9) + ", turns " + x.asks(1, 52, 34, 5, 9) + ", is worth "
                + x.asks(2, 52, 34, 5, 9));
        }
    }
}
