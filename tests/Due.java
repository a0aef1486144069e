import java.util.ArrayList;
import java.util.List;

/** Counts answers that are not the due ones; what every test of the project shares. */
final class Due {
    /** Each place and the words of it that tests have told, by turns. */
    static final List<String> SENTENCES = new ArrayList<>();

    private static int asked = 0;
    private static int wrong = 0;
    private static String sentence = "";

    private Due() {
    }

    /**
     * Tells to which promise or term the checks that follow belong, and which sentence of the document they would
     * find broken. Sentences.java looks whether the words stand so in the document.
     */
    static void of(String place, String words) {
        String now = place + ", \"" + words + "\": ";
        if (!now.equals(sentence)) {
            SENTENCES.add(place);
            SENTENCES.add(words);
        }
        sentence = now;
    }

    static void is(String call, long got, long want) {
        asked++;
        if (got != want) {
            wrong++;
            System.out.println(sentence + call + " answered " + got + ", due is " + want);
        }
    }

    static void isNot(String call, long got, long refusal) {
        asked++;
        if (got == refusal) {
            wrong++;
            System.out.println(sentence + call + " answered " + got + ", which is not due");
        }
    }

    static void holds(String what, boolean is) {
        asked++;
        if (!is) {
            wrong++;
            System.out.println(sentence + "does not hold: " + what);
        }
    }

    static void end() {
        System.out.println(asked + " asked, " + wrong + " not as due");
        if (asked == 0 || wrong != 0) {
            System.exit(1);
        }
    }

    /** Feeds all of a text; answers how many bytes the tape has, or the first refusal. */
    static int feedAll(HatDownTheStreet x, String text) {
        int answer = x.count(7);
        for (int i = 0; i < text.length() && answer >= 0; i += 5) {
            int n = Math.min(5, text.length() - i);
            int[] b = new int[5];
            for (int k = 0; k < n; k++) {
                b[k] = text.charAt(i + k);
            }
            answer = x.feed(n, b[0], b[1], b[2], b[3], b[4]);
        }
        return answer;
    }

    static int text(HatDownTheStreet x, String text) {
        feedAll(x, text);
        return x.text();
    }

    static HatDownTheStreet withLaw(String text) {
        HatDownTheStreet x = new HatDownTheStreet();
        is("text of " + text, text(x, text), 1);
        is("force(1)", x.force(1), 0);
        return x;
    }

    /** Gusts from second 0 on, each told as by wind(). */
    static void gusts(HatDownTheStreet x, int... winds) {
        for (int second = 0; second < winds.length; second++) {
            x.blow(second, winds[second] / 10, winds[second] % 10);
        }
    }

    static void everyGust(HatDownTheStreet x, int way, int how) {
        for (int second = 0; second < 24; second++) {
            x.blow(second, way, how);
        }
    }

    static void walls(HatDownTheStreet x, int... squares) {
        marks(x, 0, squares);
    }

    static void puddles(HatDownTheStreet x, int... squares) {
        marks(x, 1, squares);
    }

    static void eddies(HatDownTheStreet x, int... squares) {
        marks(x, 2, squares);
    }

    private static void marks(HatDownTheStreet x, int what, int... squares) {
        for (int c : squares) {
            is("street(" + what + ", " + c + ", 1)", x.street(what, c, 1), 0);
        }
    }

    static int bits(int... numbers) {
        int bits = 0;
        for (int i : numbers) {
            bits |= 1 << i;
        }
        return bits;
    }

    /** A sheet of ints that holds these numbers. */
    static void sheet(HatDownTheStreet x, int s, int... numbers) {
        sheetOf(x, s, 2, numbers);
    }

    static void sheetOf(HatDownTheStreet x, int s, int sort, int... numbers) {
        is("sheet(" + s + ", " + sort + ", " + numbers.length + ")", x.sheet(s, sort, numbers.length), 1);
        for (int i = 0; i < numbers.length; i++) {
            is("cell(" + s + ", " + i + ", " + numbers[i] + ")", x.cell(s, i, numbers[i]), 1);
        }
    }
}
