import java.lang.reflect.Method;
import java.util.ArrayList;
import java.util.Arrays;
import java.util.HashMap;
import java.util.List;
import java.util.Map;
import java.util.Random;

/** Runs of calls by lot, on the class and on the plain model: each answer must be the same. */
public final class ModelTest {
    private static final int RUNS = 600;
    private static final int CALLS = 512;

    /** For each call the least and the most of each number, mostly as the document tells them. */
    private static final Map<String, int[]> RANGES = new HashMap<>();

    private static void range(String call, int... leastAndMost) {
        RANGES.put(call, leastAndMost);
    }

    static {
        range("street", 0, 2, 0, 31, 0, 1);
        range("blow", 0, 23, 0, 4, 0, 9);
        range("wind", 0, 23);
        range("count", 0, 7);
        range("feed", 1, 5, 0, 255, 0, 255, 0, 255, 0, 255, 0, 255);
        range("text");
        range("force", 0, 5);
        range("asks", 0, 2, 0, 92, 0, 95, 0, 24, 0, 31);
        range("hat", 0, 59, 0, 31, 0, 2);
        range("set", 0, 3, 0, 1, 0, 31);
        range("told", 0, 3, 0, 3);
        range("come", 0, 31, 0, 4, 0, 3);
        range("does", 0, 3, 0, 2, 0, 31);
        range("at", 0, 3, 0, 24, 0, 1);
        range("pass", 0, 24);
        range("when", 0, 3, 0, 31);
        range("track", 0, 3, 0, 24);
        range("over", 0, 3);
        range("round", 0, 3, 0, 1);
        range("from", 0, 3, 0, 24, 0, 31);
        range("keeps", 0, 3, 0, 24, 0, 1);
        range("caught", 0, 3, 0, 3);
        range("who", 0, 3, 0, 1);
        range("stand", 0, 3, 0, 3, 0, 1);
        range("wait", 0, 3, 0, 3);
        range("pace", 0, 3, 0, 3, 0, 24);
        range("order", 0, 3, 0, 1);
        range("gain", 0, 3, 0, 3);
        range("whom", 0, 3, 0, 1);
        range("run", 0, 3, 0, 3);
        range("held", 0, 3, 0, 24, 0, 2324);
        range("save", 0, 3);
        range("turned", 0, 3, 0, 23, 0, 31);
        range("lull", 0, 3, 0, 3, 0, 1);
        range("fence", 0, 3, 0, 3, 0, 1);
        range("judge", 0, 3, 0, 3);
        range("whose", 0, 3);
        range("lay", 0, 3, 0, 3);
        range("kinds", 0, 3, 0, 3, 0, 1);
        range("laws", 0, 3, 0, 3);
        range("film", 0, 3, 0, 3, 0, 25);
        range("drawn", 0, 99999, 0, 3, 0, 24);
        range("odds", 0, 99999, 1, 30, 0, 33, 0, 1);
        range("image");
        range("back");
        range("sheet", 0, 3, -1, 2, 0, 40);
        range("cell", 0, 3, 0, 39, 0, 31);
        range("copy", 0, 3, 0, 40, 0, 3, 0, 40, 0, 40);
        range("gustsBy", 0, 3, 0, 2, 0, 39, 0, 13);
        range("taken", 0, 35, 0, 6);
    }

    private final Random lot;
    private final HatDownTheStreet x = new HatDownTheStreet();
    private final PlainModel model = new PlainModel();
    private final List<String> told = new ArrayList<>();
    private final Map<String, Method> byClass;
    private final Map<String, Method> byModel;
    private boolean isWrong = false;

    private ModelTest(long seed, Map<String, Method> byClass, Map<String, Method> byModel) {
        lot = new Random(seed);
        this.byClass = byClass;
        this.byModel = byModel;
    }

    /** Behind its 512th call nothing is promised of an object, so none is made. */
    private long call(String name, int... numbers) throws Exception {
        if (told.size() >= CALLS) {
            return -1;
        }
        Object[] args = Arrays.stream(numbers).boxed().toArray();
        long got = ((Number) byClass.get(name).invoke(x, args)).longValue();
        long want = ((Number) byModel.get(name).invoke(model, args)).longValue();
        told.add(name + Arrays.toString(numbers) + " " + got);
        if (got != want && !isWrong) {
            isWrong = true;
            System.out.println(String.join("\n", told));
        }
        Due.is(name + Arrays.toString(numbers), got, want);
        return got;
    }

    private int number(int least, int most) {
        int chance = lot.nextInt(200);
        if (chance == 0) {
            return lot.nextInt();
        }
        if (chance == 1) {
            return lot.nextBoolean() ? Integer.MAX_VALUE - lot.nextInt(3) : Integer.MIN_VALUE + lot.nextInt(3);
        }
        if (chance < 4) {
            return lot.nextBoolean() ? least - 1 : most + 1;
        }
        return least + lot.nextInt(most - least + 1);
    }

    private void callByLot(String name) throws Exception {
        int[] range = RANGES.get(name);
        int[] numbers = new int[range.length / 2];
        for (int i = 0; i < numbers.length; i++) {
            numbers[i] = number(range[2 * i], range[2 * i + 1]);
        }
        boolean isOften = lot.nextInt(6) != 0;
        if (isOften && name.equals("held")) {
            numbers[2] = 100 * lot.nextInt(24) + lot.nextInt(25);
        }
        if (isOften && name.equals("odds")) {
            numbers[2] = 10 * lot.nextInt(4) + lot.nextInt(4);
        }
        if (isOften && name.equals("asks")) {
            numbers[1] = 10 * lot.nextInt(10) + lot.nextInt(3);
            numbers[2] = 10 * lot.nextInt(10) + lot.nextInt(6);
        }
        if (isOften && name.equals("set")) {
            numbers[2] = numbers[1] == 1 ? lot.nextInt(3) : numbers[2];
        }
        if (isOften && name.equals("does")) {
            numbers[2] = numbers[1] == 0 ? numbers[2] : lot.nextInt(5);
        }
        if (isOften && name.equals("copy")) {
            numbers[1] = lot.nextInt(10);
            numbers[3] = lot.nextInt(10);
            numbers[4] = lot.nextInt(12);
        }
        call(name, numbers);
    }

    private String one(int depth) {
        switch (lot.nextInt(depth <= 0 ? 6 : 9)) {
            case 0: case 1: return "" + lot.nextInt(12);
            case 2: return lot.nextInt(30) == 0 ? "" + lot.nextInt(200000) : "" + lot.nextInt(10000);
            case 3: case 4: case 5:
                return new String[] {"strength", "lie", "more", "second", "cell", "kind"}[lot.nextInt(6)];
            case 6: return "-" + one(depth - 1);
            default: return "(" + expression(depth - 1) + ")";
        }
    }

    private String expression(int depth) {
        StringBuilder s = new StringBuilder(lot.nextInt(5) == 0 ? "not " : "");
        s.append(one(depth));
        String[] signs = {"+", "-", "*", " < ", "=", " or ", " and ", " and not "};
        while (lot.nextInt(5) < 2) {
            s.append(signs[lot.nextInt(signs.length)]).append(one(depth));
        }
        return s.toString();
    }

    private void text() throws Exception {
        String text = "goes " + expression(2) + ";turns " + expression(2) + " ;\nworth " + expression(2) + ";";
        if (lot.nextInt(3) == 0) {
            int place = lot.nextInt(text.length());
            String[] scraps = {"", " ", "(", ")", "not ", "-", "((((((", "------", ";", "or", "goes", "x", "12345", "A", "<"};
            int end = Math.min(text.length(), place + lot.nextInt(3));
            text = text.substring(0, place) + scraps[lot.nextInt(scraps.length)] + text.substring(end);
        }
        for (int i = 0; i < text.length(); i += 5) {
            int[] b = new int[6];
            b[0] = Math.min(5, text.length() - i);
            for (int k = 0; k < b[0]; k++) {
                b[k + 1] = text.charAt(i + k);
            }
            call("feed", b);
        }
        long t = call("text");
        if (t > 0) {
            call("force", (int) t);
        }
    }

    /** A sheet that tells nearly a hat's way, so that the told ways have something to find. */
    private void tellWay() throws Exception {
        int s = lot.nextInt(4);
        call("film", s, lot.nextInt(4), lot.nextInt(26));
        if (lot.nextBoolean()) {
            call("cell", s, lot.nextInt(25), lot.nextInt(32));
        }
        for (int h = 0; h < 4; h++) {
            call("judge", s, h);
        }
        call("whose", s);
        call("lay", s, lot.nextInt(4));
        call("kinds", s, lot.nextInt(4), lot.nextInt(2));
        call("laws", s, lot.nextInt(4));
    }

    private void begin() throws Exception {
        int walls = lot.nextInt(12);
        int puddles = lot.nextInt(4);
        int eddies = lot.nextInt(8);
        for (int i = 0; i < walls + puddles + eddies; i++) {
            call("street", i < walls ? 0 : i < walls + puddles ? 1 : 2, lot.nextInt(32), 1);
        }
        for (int i = lot.nextInt(5); i > 0; i--) {
            callByLot("hat");
        }
        for (int i = lot.nextInt(5); i > 0; i--) {
            callByLot("come");
        }
        int most = 1 + lot.nextInt(9);
        for (int second = 0; second < 24; second++) {
            if (lot.nextInt(4) != 0) {
                call("blow", second, lot.nextInt(4), 1 + lot.nextInt(most));
            }
        }
    }

    private boolean run() throws Exception {
        String[] names = RANGES.keySet().toArray(new String[0]);
        Arrays.sort(names);
        begin();
        boolean isCalm = lot.nextBoolean();
        while (told.size() < CALLS && !isWrong) {
            int chance = lot.nextInt(60);
            String name = names[lot.nextInt(names.length)];
            boolean changesMuch = name.equals("run") || name.equals("pass") || name.equals("feed") || name.equals("text");
            if (chance == 0) {
                text();
            } else if (chance < 3) {
                tellWay();
            } else if (chance == 3) {
                callByLot("hat");
            } else if (!changesMuch || !isCalm || lot.nextInt(10) == 0) {
                callByLot(name);
            }
        }
        return !isWrong;
    }

    public static void main(String[] args) throws Exception {
        Map<String, Method> byClass = new HashMap<>();
        Map<String, Method> byModel = new HashMap<>();
        for (Method m : HatDownTheStreet.class.getDeclaredMethods()) {
            if (RANGES.containsKey(m.getName())) {
                byClass.put(m.getName(), m);
            }
        }
        for (Method m : PlainModel.class.getDeclaredMethods()) {
            int[] range = RANGES.get(m.getName());
            if (range != null && m.getParameterCount() == range.length / 2) {
                byModel.put(m.getName(), m);
            }
        }
        int runs = args.length > 0 ? Integer.parseInt(args[0]) : RUNS;
        for (long seed = 0; seed < runs; seed++) {
            if (!new ModelTest(seed, byClass, byModel).run()) {
                System.out.println("by lot " + seed);
                break;
            }
        }
        Due.end();
    }
}
