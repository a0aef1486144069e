/** A street of thirty two squares, its gusts, the hats that they drive and those who run behind them. */
public final class HatDownTheStreet {
    public static final int NONE = -1, BAD = -2, STATE = -3, FULL = -4;
    public static final long NO = -4611686018427387904L;

    private static final int NO_SUCH = -5, WRONG = -7;
    private static final int NOTHING_THERE = -11, OUTSIDE = -12, OTHER_SORT = -13, SIZE_BELOW_0 = -14;
    private static final int NOT_HAD = -100, FAULT = -100, NO_ANSWER = -1000;

    private static final int SQUARES = 32, WIDTH = 8, SECONDS = 24, LIES = 3, STATES = SQUARES * LIES;
    private static final int WAYS = 4, STILL = 4, MOST_STRENGTH = 9;
    private static final int WALL = 0, PUDDLE = 1, EDDY = 2, MARKS = 3;
    private static final int MOST_HATS = 4, MOST_CATCHERS = 4, MOST_MORE = 9, MOST_PACE = 4, MOST_REACH = 3;
    private static final int MOST_TEXTS = 6, MOST_TAPE = 160, MOST_BYTES = 5;
    private static final int GOES = 0, TURNS = 1, WORTH = 2, PARTS = 3;
    private static final int SHEETS = 4, MISSING = -1, INTS = 2, MOST_SIZE = 40, MOST_TOLD = 25, MOST_BLOWN = 13;
    private static final int MOST_SEED = 99999, MOST_SEEDS = 30;
    private static final int HAT = 0, BOWLER = 1, CAP = 2, BALL = 3, LEAF = 4, WET = 5, KINDS = 6, TAKEN_SQUARE = 6;
    private static final String FIRST_TEXT = "goes strength ; turns 1 ; worth 30 - second ;";

    private final Street now = new Street();
    private final Street kept = new Street();
    private boolean isKept = false;
    private final Law[] texts = new Law[MOST_TEXTS];
    private int textCount = 1;
    private final Reader reader = new Reader();
    private final Sheet[] rows = new Sheet[SHEETS];
    private final Thought mind = new Thought();
    private final Errand errand = new Errand();
    private final int[] tally = new int[STATES];

    public HatDownTheStreet() {
        for (int t = 0; t < MOST_TEXTS; t++) {
            texts[t] = new Law();
        }
        for (int s = 0; s < SHEETS; s++) {
            rows[s] = new Sheet();
        }
        for (int i = 0; i < FIRST_TEXT.length(); i++) {
            reader.put(FIRST_TEXT.charAt(i));
        }
        reader.readInto(texts[0]);
    }

    // ---- the street, the law

    public int street(int what, int c, int is) {
        if (what < 0 || what >= MARKS) {
            return NONE;
        }
        if (!isSquare(c) || is < 0 || is > 1) {
            return BAD;
        }
        if (what == WALL && is == 1 && ((now.hatSquares() | now.catcherSquares()) >>> c & 1) != 0) {
            return STATE;
        }
        int was = now.marks[what] >>> c & 1;
        now.marks[what] = now.marks[what] & ~(1 << c) | is << c;
        return was;
    }

    public int blow(int second, int way, int how) {
        if (!isSecond(second)) {
            return NO_SUCH;
        }
        if (way < 0 || way > STILL || how < 0 || how > MOST_STRENGTH) {
            return WRONG;
        }
        int was = now.gust(second);
        now.way[second] = way;
        now.strength[second] = how;
        return was;
    }

    public int wind(int second) {
        return isSecond(second) ? now.gust(second) : NO_SUCH;
    }

    public int count(int what) {
        switch (what) {
            case 0: return now.hatCount;
            case 1: return now.catcherCount;
            case 2: return now.marks[WALL];
            case 3: return now.marks[PUDDLE];
            case 4: return now.marks[EDDY];
            case 5: return textCount;
            case 6: return now.law;
            case 7: return reader.fed;
            default: return BAD;
        }
    }

    public int feed(int n, int a, int b, int c, int d, int e) {
        if (n < 1 || n > MOST_BYTES || !isByte(a) || !isByte(b) || !isByte(c) || !isByte(d) || !isByte(e)) {
            return BAD;
        }
        if (reader.fed + n > MOST_TAPE) {
            return FULL;
        }
        for (int i = 0; i < n; i++) {
            reader.put(i == 0 ? a : i == 1 ? b : i == 2 ? c : i == 3 ? d : e);
        }
        return reader.fed;
    }

    public int text() {
        if (textCount >= MOST_TEXTS) {
            return FULL;
        }
        // A text with a fault leaves only scraps in a row that isn't counted yet.
        int fault = reader.readInto(texts[textCount]);
        if (fault >= 0) {
            return FAULT - fault;
        }
        textCount++;
        return textCount - 1;
    }

    public int force(int t) {
        if (t < 0 || t >= textCount) {
            return BAD;
        }
        int was = now.law;
        now.law = t;
        return was;
    }

    public int asks(int part, int howLie, int moreKind, int second, int c) {
        if (part < 0 || part >= PARTS || !isBehind(second) || !isSquare(c)) {
            return NO_ANSWER;
        }
        if (howLie < 0 || howLie / 10 > MOST_STRENGTH || howLie % 10 >= LIES) {
            return NO_ANSWER;
        }
        if (moreKind < 0 || moreKind / 10 > MOST_MORE || moreKind % 10 >= KINDS) {
            return NO_ANSWER;
        }
        mind.law = texts[now.law];
        mind.kind = moreKind % 10;
        mind.more = moreKind / 10;
        mind.tell(howLie / 10, second, stateOf(c, howLie % 10));
        return mind.law.says(part, mind.names);
    }

    // ---- hats, catchers

    public int hat(int kindMore, int c, int lie) {
        if (kindMore < 0 || kindMore / 10 >= KINDS || !isOpen(c) || !isLie(lie)) {
            return BAD;
        }
        if (now.hatCount >= MOST_HATS) {
            return FULL;
        }
        Hat hat = now.hats[now.hatCount];
        hat.kind = kindMore / 10;
        hat.more = kindMore % 10;
        hat.state = stateOf(c, lie);
        now.hatCount++;
        return now.hatCount - 1;
    }

    public int set(int h, int what, int v) {
        if (!isHat(h)) {
            return NO_SUCH;
        }
        Hat hat = now.hats[h];
        int square = squareOf(hat.state);
        int lie = lieOf(hat.state);
        if (what == 0 && isOpen(v)) {
            hat.state = stateOf(v, lie);
            return square;
        }
        if (what == 1 && isLie(v)) {
            hat.state = stateOf(square, v);
            return lie;
        }
        return WRONG;
    }

    public int told(int h, int what) {
        if (!isHat(h)) {
            return NO_SUCH;
        }
        switch (what) {
            case 0: return squareOf(now.hats[h].state);
            case 1: return lieOf(now.hats[h].state);
            case 2: return now.hats[h].kind;
            case 3: return now.hats[h].more;
            default: return WRONG;
        }
    }

    public int come(int c, int pace, int reach) {
        if (!isOpen(c) || !isPace(pace) || !isReach(reach)) {
            return BAD;
        }
        if (now.catcherCount >= MOST_CATCHERS) {
            return FULL;
        }
        Catcher catcher = now.catchers[now.catcherCount];
        catcher.square = c;
        catcher.pace = pace;
        catcher.reach = reach;
        now.catcherCount++;
        return now.catcherCount - 1;
    }

    public int does(int p, int what, int v) {
        if (!isCatcher(p)) {
            return NO_SUCH;
        }
        Catcher catcher = now.catchers[p];
        int was = WRONG;
        if (what == 0 && isOpen(v)) {
            was = catcher.square;
            catcher.square = v;
        } else if (what == 1 && isPace(v)) {
            was = catcher.pace;
            catcher.pace = v;
        } else if (what == 2 && isReach(v)) {
            was = catcher.reach;
            catcher.reach = v;
        }
        return was;
    }

    // ---- where it goes

    public int at(int h, int n, int what) {
        if (!isHat(h)) {
            return NO_SUCH;
        }
        if (!isBehind(n) || !isZeroOrOne(what)) {
            return WRONG;
        }
        think(h);
        int state = mind.later(mind.start, 0, n);
        return what == 0 ? squareOf(state) : lieOf(state);
    }

    public int pass(int n) {
        if (!isBehind(n)) {
            return BAD;
        }
        letPass(n);
        int wet = 0;
        for (int h = 0; h < now.hatCount; h++) {
            wet += now.marks[PUDDLE] >>> squareOf(now.hats[h].state) & 1;
        }
        return wet;
    }

    public int when(int h, int c) {
        if (!isHat(h)) {
            return NO_SUCH;
        }
        if (!isSquare(c)) {
            return WRONG;
        }
        think(h);
        return mind.firstIn(1 << c);
    }

    public int track(int h, int n) {
        if (!isHat(h) || !isBehind(n)) {
            return 0;
        }
        think(h);
        mind.follow(mind.path);
        int squares = 0;
        for (int i = 0; i <= n; i++) {
            squares |= 1 << squareOf(mind.path[i]);
        }
        return squares;
    }

    public int over(int h) {
        if (!isHat(h)) {
            return NO_SUCH;
        }
        think(h);
        return mind.firstIn(mind.puddles);
    }

    public int round(int h, int what) {
        if (!isHat(h)) {
            return NO_SUCH;
        }
        if (!isZeroOrOne(what)) {
            return WRONG;
        }
        think(h);
        for (int i = 0; i < STATES; i++) {
            tally[i] = -1;
        }
        int state = mind.start;
        int day = 0;
        while (day <= STATES && tally[state] < 0) {
            tally[state] = day;
            state = mind.later(state, 0, SECONDS);
            day++;
        }
        return what == 0 ? day : day - tally[state];
    }

    public int from(int h, int n, int c) {
        if (!isHat(h) || !isBehind(n) || !isSquare(c)) {
            return 0;
        }
        think(h);
        int squares = 0;
        for (int s = 0; s < SQUARES; s++) {
            if (isOpen(s) && squareOf(mind.later(stateOf(s, lieOf(mind.start)), 0, n)) == c) {
                squares |= 1 << s;
            }
        }
        return squares;
    }

    public int keeps(int h, int n, int what) {
        if (!isHat(h)) {
            return NO_SUCH;
        }
        if (!isBehind(n) || !isZeroOrOne(what)) {
            return WRONG;
        }
        think(h);
        for (int s = 0; s < SQUARES; s++) {
            tally[s] = 0;
        }
        for (int s = 0; s < SQUARES; s++) {
            if (isOpen(s)) {
                tally[squareOf(mind.later(stateOf(s, lieOf(mind.start)), 0, n))]++;
            }
        }
        int best = NONE;
        int most = 0;
        for (int s = 0; s < SQUARES; s++) {
            if (tally[s] > most) {
                most = tally[s];
                best = s;
            }
        }
        return what == 0 ? best : most;
    }

    // ---- catching

    public int caught(int h, int p) {
        return isHat(h) && isCatcher(p) ? hadNow(h, p) : NO_SUCH;
    }

    public int who(int h, int what) {
        if (!isHat(h)) {
            return NO_SUCH;
        }
        if (!isZeroOrOne(what)) {
            return WRONG;
        }
        think(h);
        mind.follow(mind.path);
        int best = NONE;
        int first = NONE;
        for (int p = 0; p < now.catcherCount; p++) {
            Catcher catcher = now.catchers[p];
            int n = mind.had(mind.path, catcher.square, 0, catcher.pace, catcher.reach);
            if (isSooner(n, first)) {
                first = n;
                best = p;
            }
        }
        return what == 0 ? best : first;
    }

    public int stand(int h, int p, int what) {
        int refusal = refusalOfPair(h, p, what);
        if (refusal != 0) {
            return refusal;
        }
        think(h);
        mind.follow(mind.path);
        Catcher catcher = now.catchers[p];
        int best = NONE;
        int first = NONE;
        for (int s = 0; s < SQUARES; s++) {
            if (isOpen(s) && s != squareOf(mind.start)) {
                int n = mind.had(mind.path, s, 0, catcher.pace, catcher.reach);
                if (isSooner(n, first)) {
                    first = n;
                    best = s;
                }
            }
        }
        return what == 0 ? best : first;
    }

    public int wait(int h, int p) {
        if (!isHat(h) || !isCatcher(p)) {
            return NO_SUCH;
        }
        int first = hadNow(h, p);
        Catcher catcher = now.catchers[p];
        int longest = NONE;
        for (int m = 0; m <= first; m++) {
            int n = mind.had(mind.path, catcher.square, m, catcher.pace, catcher.reach);
            if (n < 0 || n > first) {
                break;
            }
            longest = m;
        }
        return longest;
    }

    public int pace(int h, int p, int second) {
        if (!isHat(h) || !isCatcher(p)) {
            return NO_SUCH;
        }
        if (second < 0 || second > SECONDS) {
            return WRONG;
        }
        think(h);
        mind.follow(mind.path);
        Catcher catcher = now.catchers[p];
        for (int pace = 0; pace <= MOST_PACE; pace++) {
            int n = mind.had(mind.path, catcher.square, 0, pace, catcher.reach);
            if (n >= 0 && (second == 0 || n < second)) {
                return pace;
            }
        }
        return NONE;
    }

    public int order(int p, int what) {
        if (!isCatcher(p)) {
            return NO_SUCH;
        }
        if (!isZeroOrOne(what)) {
            return WRONG;
        }
        for (int h = 0; h < now.hatCount; h++) {
            think(h);
            mind.follow(errand.paths[h]);
        }
        errand.plan(mind, now.catchers[p], now.hatCount);
        return what == 0 ? errand.best : errand.end;
    }

    // ---- what it is worth

    public int gain(int h, int p) {
        return isHat(h) && isCatcher(p) ? worthHad(h, p) : NO_ANSWER;
    }

    public int whom(int p, int what) {
        if (!isCatcher(p)) {
            return NO_SUCH;
        }
        if (!isZeroOrOne(what)) {
            return WRONG;
        }
        int best = NONE;
        int most = 0;
        for (int h = 0; h < now.hatCount; h++) {
            int worth = worthHad(h, p);
            if (worth > most) {
                most = worth;
                best = h;
            }
        }
        return what == 0 ? best : most;
    }

    public int run(int h, int p) {
        if (!isHat(h) || !isCatcher(p)) {
            return NO_SUCH;
        }
        int n = hadNow(h, p);
        if (n < 0) {
            return STATE;
        }
        letPass(n);
        now.catchers[p].square = squareOf(now.hats[h].state);
        now.removeHat(h);
        return n;
    }

    // ---- were it otherwise

    public int held(int h, int n, int hold) {
        if (!isHat(h)) {
            return NO_SUCH;
        }
        if (!isBehind(n) || hold < 0 || !isSecond(hold / 100) || !isBehind(hold % 100)) {
            return WRONG;
        }
        think(h);
        int caughtAt = Math.min(n, hold / 100);
        int freeAt = Math.min(n, hold / 100 + hold % 100);
        int state = mind.later(mind.start, 0, caughtAt);
        return squareOf(mind.later(state, freeAt, n));
    }

    public int save(int h) {
        if (!isHat(h)) {
            return NO_SUCH;
        }
        think(h);
        mind.follow(mind.path);
        if (!mind.isWet(mind.path[SECONDS])) {
            return 0;
        }
        for (int many = 1; many <= SECONDS; many++) {
            for (int from = 0; from + many <= SECONDS; from++) {
                if (!mind.isWet(mind.later(mind.path[from], from + many, SECONDS))) {
                    return 100 * from + many;
                }
            }
        }
        return NONE;
    }

    public int turned(int h, int second, int c) {
        if (!isHat(h)) {
            return NO_SUCH;
        }
        if (!isSecond(second) || !isSquare(c)) {
            return WRONG;
        }
        think(h);
        int before = mind.later(mind.start, 0, second);
        int ways = 0;
        for (int way = 0; way <= STILL; way++) {
            mind.way[second] = way;
            if (squareOf(mind.later(before, second, SECONDS)) == c) {
                ways |= 1 << way;
            }
        }
        return ways;
    }

    public int lull(int h, int p, int what) {
        int refusal = refusalOfPair(h, p, what);
        if (refusal != 0) {
            return refusal;
        }
        int first = hadNow(h, p);
        int best = NONE;
        for (int second = 0; second < SECONDS; second++) {
            mind.way[second] = STILL;
            int n = mind.hadBy(now.catchers[p]);
            mind.way[second] = now.way[second];
            if (isSooner(n, first)) {
                first = n;
                best = second;
            }
        }
        return what == 0 ? best : first;
    }

    public int fence(int h, int p, int what) {
        int refusal = refusalOfPair(h, p, what);
        if (refusal != 0) {
            return refusal;
        }
        int first = hadNow(h, p);
        int full = now.marks[WALL] | now.hatSquares() | now.catcherSquares();
        int best = NONE;
        for (int s = 0; s < SQUARES; s++) {
            if ((full >>> s & 1) == 0) {
                mind.walls = now.marks[WALL] | 1 << s;
                int n = mind.hadBy(now.catchers[p]);
                if (isSooner(n, first)) {
                    first = n;
                    best = s;
                }
            }
        }
        return what == 0 ? best : first;
    }

    // ---- told ways

    public int judge(int s, int h) {
        int refusal = refusalOfWay(s, h);
        if (refusal != 0) {
            return refusal;
        }
        think(h);
        return mind.elsewhere(rows[s], mind.start);
    }

    public int whose(int s) {
        int refusal = refusalOfTold(s);
        if (refusal != 0) {
            return refusal;
        }
        int hats = 0;
        for (int h = 0; h < now.hatCount; h++) {
            think(h);
            if (mind.elsewhere(rows[s], mind.start) < 0) {
                hats |= 1 << h;
            }
        }
        return hats;
    }

    public int lay(int s, int h) {
        int refusal = refusalOfWay(s, h);
        if (refusal != 0) {
            return refusal;
        }
        think(h);
        int lies = 0;
        for (int lie = 0; lie < LIES; lie++) {
            for (int c = 0; c < SQUARES; c++) {
                if (isOpen(c) && mind.elsewhere(rows[s], stateOf(c, lie)) < 0) {
                    lies |= 1 << lie;
                }
            }
        }
        return lies;
    }

    public int kinds(int s, int h, int sort) {
        int refusal = refusalOfWay(s, h);
        if (refusal != 0) {
            return refusal;
        }
        if (!isZeroOrOne(sort)) {
            return WRONG;
        }
        think(h);
        int bits = 0;
        int many = sort == 0 ? KINDS : MOST_MORE + 1;
        for (int i = 0; i < many; i++) {
            if (sort == 0) {
                mind.kind = i;
            } else {
                mind.more = i;
            }
            if (mind.elsewhere(rows[s], mind.start) < 0) {
                bits |= 1 << i;
            }
        }
        return bits;
    }

    public int laws(int s, int h) {
        int refusal = refusalOfWay(s, h);
        if (refusal != 0) {
            return refusal;
        }
        think(h);
        int bits = 0;
        for (int t = 0; t < textCount; t++) {
            mind.law = texts[t];
            if (mind.elsewhere(rows[s], mind.start) < 0) {
                bits |= 1 << t;
            }
        }
        return bits;
    }

    public int film(int s, int h, int n) {
        if (!isSheet(s)) {
            return BAD;
        }
        if (!isHat(h)) {
            return NO_SUCH;
        }
        if (n < 0 || n > MOST_TOLD) {
            return WRONG;
        }
        think(h);
        mind.follow(mind.path);
        rows[s].becomeEmpty(INTS, n);
        for (int i = 0; i < n; i++) {
            rows[s].put(i, squareOf(mind.path[i]));
        }
        return n;
    }

    // ---- days by lot

    public int drawn(int seed, int h, int n) {
        if (!isHat(h)) {
            return NO_SUCH;
        }
        if (!isSeed(seed) || !isBehind(n)) {
            return WRONG;
        }
        think(h);
        mind.drawGusts(seed);
        return squareOf(mind.later(mind.start, 0, n));
    }

    public long odds(int seed, int seeds, int hp, int part) {
        if (!isSeed(seed) || seeds < 1 || seeds > MOST_SEEDS || !isZeroOrOne(part)) {
            return NO;
        }
        if (hp < 0 || !isHat(hp / 10) || !isCatcher(hp % 10)) {
            return NO;
        }
        think(hp / 10);
        int many = 0;
        for (int i = 0; i < seeds; i++) {
            mind.drawGusts(seed + i);
            if (mind.hadBy(now.catchers[hp % 10]) >= 0) {
                many++;
            }
        }
        int common = commonDivisor(many, seeds);
        return part == 0 ? many / common : seeds / common;
    }

    public int image() {
        kept.become(now);
        isKept = true;
        return now.hatCount;
    }

    public int back() {
        if (!isKept) {
            return STATE;
        }
        now.become(kept);
        return now.hatCount;
    }

    // ---- the host

    public int sheet(int s, int sort, int n) {
        if (!isSheet(s) || sort < MISSING || sort > INTS || sort != MISSING && n > MOST_SIZE) {
            return BAD;
        }
        if (sort != MISSING && n < 0) {
            return SIZE_BELOW_0;
        }
        rows[s].becomeEmpty(sort, sort == MISSING ? 0 : n);
        return 1;
    }

    public int cell(int s, int i, int v) {
        if (!isSheet(s)) {
            return BAD;
        }
        if (rows[s].sort == MISSING) {
            return NOTHING_THERE;
        }
        if (i < 0 || i >= rows[s].size) {
            return OUTSIDE;
        }
        rows[s].put(i, v);
        return 1;
    }

    public int copy(int s, int i, int other, int j, int n) {
        if (!isSheet(s) || !isSheet(other)) {
            return BAD;
        }
        Sheet source = rows[s];
        Sheet target = rows[other];
        if (source.sort == MISSING || target.sort == MISSING) {
            return NOTHING_THERE;
        }
        if (source.sort != target.sort) {
            return OTHER_SORT;
        }
        if (n < 0 || i < 0 || j < 0 || i > source.size - n || j > target.size - n) {
            return OUTSIDE;
        }
        System.arraycopy(source.row, i, target.row, j, n);
        return n;
    }

    public int gustsBy(int s, int sort, int at, int n) {
        if (!isSheet(s) || sort < 0 || sort > INTS || n < 0 || n > MOST_BLOWN) {
            return BAD;
        }
        Sheet sheet = rows[s];
        if (sheet.sort == MISSING) {
            return NOTHING_THERE;
        }
        if (sheet.sort != sort) {
            return OTHER_SORT;
        }
        int many = 0;
        int place = at;
        for (int k = 0; k < n; k++) {
            if (place < 0 || place > sheet.size - 3) {
                return OUTSIDE;
            }
            if (blow(sheet.row[place], sheet.row[place + 1], sheet.row[place + 2]) >= 0) {
                many++;
            }
            place += 3;
        }
        return many;
    }

    public int taken(int i, int kind) {
        if (kind < 0 || kind > TAKEN_SQUARE) {
            return BAD;
        }
        if (i < 0 || i >= SQUARES + MOST_HATS) {
            return OUTSIDE;
        }
        if (i < SQUARES) {
            if (((now.marks[PUDDLE] | now.marks[EDDY]) >>> i & 1) == 0) {
                return NOTHING_THERE;
            }
            return kind == TAKEN_SQUARE ? now.marks[PUDDLE] >>> i & 1 : OTHER_SORT;
        }
        int h = i - SQUARES;
        if (!isHat(h)) {
            return NOTHING_THERE;
        }
        return kind != TAKEN_SQUARE && Kinds.isOne(now.hats[h].kind, kind) ? h : OTHER_SORT;
    }

    // ---- what the calls above share

    private boolean isHat(int h) {
        return h >= 0 && h < now.hatCount;
    }

    private boolean isCatcher(int p) {
        return p >= 0 && p < now.catcherCount;
    }

    private boolean isOpen(int c) {
        return isSquare(c) && (now.marks[WALL] >>> c & 1) == 0;
    }

    private static boolean isSquare(int c) {
        return c >= 0 && c < SQUARES;
    }

    private static boolean isSecond(int second) {
        return second >= 0 && second < SECONDS;
    }

    private static boolean isBehind(int n) {
        return n >= 0 && n <= SECONDS;
    }

    private static boolean isByte(int b) {
        return b >= 0 && b <= 255;
    }

    private static boolean isLie(int lie) {
        return lie >= 0 && lie < LIES;
    }

    private static boolean isPace(int pace) {
        return pace >= 0 && pace <= MOST_PACE;
    }

    private static boolean isReach(int reach) {
        return reach >= 0 && reach <= MOST_REACH;
    }

    private static boolean isSeed(int seed) {
        return seed >= 0 && seed <= MOST_SEED;
    }

    private static boolean isSheet(int s) {
        return s >= 0 && s < SHEETS;
    }

    private static boolean isZeroOrOne(int what) {
        return what == 0 || what == 1;
    }

    private static boolean isSooner(int n, int than) {
        return n >= 0 && (than < 0 || n < than);
    }

    /** Where a hat is and how it lies are one number, so that a second takes one and answers one. */
    private static int stateOf(int square, int lie) {
        return lie * SQUARES + square;
    }

    private static int squareOf(int state) {
        return state % SQUARES;
    }

    private static int lieOf(int state) {
        return state / SQUARES;
    }

    private static int bounded(int v, int least, int most) {
        return v < least ? least : v > most ? most : v;
    }

    private static int commonDivisor(int a, int b) {
        for (int d = Math.max(a, b); d > 1; d--) {
            if (a % d == 0 && b % d == 0) {
                return d;
            }
        }
        return 1;
    }

    private void think(int h) {
        mind.suppose(now, now.hats[h], texts[now.law]);
    }

    /** Leaves in mind the hat's path as it is now, for calls that ask on. */
    private int hadNow(int h, int p) {
        think(h);
        return mind.hadBy(now.catchers[p]);
    }

    private int worthHad(int h, int p) {
        think(h);
        int n = mind.hadBy(now.catchers[p]);
        if (n < 0) {
            return NOT_HAD;
        }
        mind.tell(now.catchers[p].pace, n, mind.path[n]);
        return mind.law.says(WORTH, mind.names);
    }

    private void letPass(int n) {
        for (int h = 0; h < now.hatCount; h++) {
            think(h);
            now.hats[h].state = mind.later(mind.start, 0, n);
        }
    }

    private int refusalOfPair(int h, int p, int what) {
        if (!isHat(h) || !isCatcher(p)) {
            return NO_SUCH;
        }
        return isZeroOrOne(what) ? 0 : WRONG;
    }

    private int refusalOfWay(int s, int h) {
        int refusal = refusalOfTold(s);
        return refusal == 0 && !isHat(h) ? NO_SUCH : refusal;
    }

    private int refusalOfTold(int s) {
        if (!isSheet(s)) {
            return BAD;
        }
        if (rows[s].sort == MISSING) {
            return NOTHING_THERE;
        }
        return rows[s].size > MOST_TOLD ? BAD : 0;
    }

    private static final class Hat {
        int kind, more, state;

        void become(Hat other) {
            kind = other.kind;
            more = other.more;
            state = other.state;
        }
    }

    private static final class Catcher {
        int square, pace, reach;

        void become(Catcher other) {
            square = other.square;
            pace = other.pace;
            reach = other.reach;
        }
    }

    /** Just what an image keeps, so that keeping one is becoming like it. */
    private static final class Street {
        final int[] marks = new int[MARKS];
        final int[] way = new int[SECONDS];
        final int[] strength = new int[SECONDS];
        final Hat[] hats = new Hat[MOST_HATS];
        final Catcher[] catchers = new Catcher[MOST_CATCHERS];
        int hatCount, catcherCount, law;

        Street() {
            for (int second = 0; second < SECONDS; second++) {
                way[second] = STILL;
            }
            for (int h = 0; h < MOST_HATS; h++) {
                hats[h] = new Hat();
            }
            for (int p = 0; p < MOST_CATCHERS; p++) {
                catchers[p] = new Catcher();
            }
        }

        void become(Street other) {
            System.arraycopy(other.marks, 0, marks, 0, MARKS);
            System.arraycopy(other.way, 0, way, 0, SECONDS);
            System.arraycopy(other.strength, 0, strength, 0, SECONDS);
            for (int h = 0; h < MOST_HATS; h++) {
                hats[h].become(other.hats[h]);
            }
            for (int p = 0; p < MOST_CATCHERS; p++) {
                catchers[p].become(other.catchers[p]);
            }
            hatCount = other.hatCount;
            catcherCount = other.catcherCount;
            law = other.law;
        }

        int gust(int second) {
            return 10 * way[second] + strength[second];
        }

        int hatSquares() {
            int squares = 0;
            for (int h = 0; h < hatCount; h++) {
                squares |= 1 << squareOf(hats[h].state);
            }
            return squares;
        }

        int catcherSquares() {
            int squares = 0;
            for (int p = 0; p < catcherCount; p++) {
                squares |= 1 << catchers[p].square;
            }
            return squares;
        }

        void removeHat(int h) {
            for (int i = h; i + 1 < hatCount; i++) {
                hats[i].become(hats[i + 1]);
            }
            hatCount--;
        }
    }

    /** What each kind does otherwise than the kind above it. */
    private static final class Kinds {
        private static final int CROWN = 0, RIM = 1, MOST_FAR = 12;
        private static final int[] ABOVE = {-1, HAT, HAT, BOWLER, CAP, HAT};

        static int far(int kind, int more, int says, int lie) {
            switch (kind) {
                case BOWLER: return bounded(bowlerFar(more, says, lie), 0, MOST_FAR);
                case CAP: return capFar(says);
                case BALL: return bounded(bowlerFar(more, says, RIM), 0, MOST_FAR);
                case LEAF: return says > 1 ? bounded(says + more / 2, 0, MOST_FAR) : capFar(says);
                case WET: return bounded(hatFar(says, lie) - more, 0, MOST_FAR);
                default: return bounded(hatFar(says, lie), 0, MOST_FAR);
            }
        }

        private static int hatFar(int says, int lie) {
            return lie == CROWN ? says / 3 : says;
        }

        private static int bowlerFar(int more, int says, int lie) {
            return lie == RIM ? hatFar(says, lie) + 1 + more / 4 : hatFar(says, lie);
        }

        private static int capFar(int says) {
            return bounded(says, 0, 1);
        }

        static boolean turnsOver(int kind) {
            return !isOne(kind, CAP);
        }

        static int eddyWay(int kind, int more, int way) {
            switch (kind) {
                case BALL: return (way + 1 + more) % WAYS;
                case WET: return way;
                default: return (way + 1) % WAYS;
            }
        }

        static boolean isOne(int kind, int wanted) {
            int k = kind;
            for (int i = 0; i < KINDS && k >= 0 && k < KINDS; i++) {
                if (k == wanted) {
                    return true;
                }
                k = ABOVE[k];
            }
            return false;
        }
    }

    /** One hat on a street as it is, or as a call would have it: what is supposed may be changed before it is followed. */
    private static final class Thought {
        private static final long LOT_FACTOR = 48271L, LOT_MODULUS = 2147483647L;
        private static final int NOT_LEFT_EDGE = 0xFEFEFEFE, NOT_RIGHT_EDGE = 0x7F7F7F7F;

        int walls, puddles, eddies;
        int kind, more, start;
        Law law = new Law();
        final int[] way = new int[SECONDS];
        final int[] strength = new int[SECONDS];
        final int[] path = new int[SECONDS + 1];
        final int[] names = new int[Law.NAMES];

        void suppose(Street street, Hat hat, Law text) {
            walls = street.marks[WALL];
            puddles = street.marks[PUDDLE];
            eddies = street.marks[EDDY];
            System.arraycopy(street.way, 0, way, 0, SECONDS);
            System.arraycopy(street.strength, 0, strength, 0, SECONDS);
            kind = hat.kind;
            more = hat.more;
            start = hat.state;
            law = text;
        }

        void drawGusts(int seed) {
            long lot = seed + 1;
            for (int second = 0; second < SECONDS; second++) {
                lot = lot * LOT_FACTOR % LOT_MODULUS;
                way[second] = (int) (lot % 5);
                strength[second] = (int) (lot / 5 % 10);
            }
        }

        /** What the law is told of a hat that is in a state, ahead of what it says. */
        void tell(int how, int second, int state) {
            names[0] = how;
            names[1] = lieOf(state);
            names[2] = more;
            names[3] = second;
            names[4] = squareOf(state);
            names[5] = kind;
        }

        boolean isWet(int state) {
            return (puddles >>> squareOf(state) & 1) != 0;
        }

        int later(int state, int from, int till) {
            int s = state;
            for (int second = from; second < till; second++) {
                s = next(second, s);
            }
            return s;
        }

        void follow(int[] row) {
            row[0] = start;
            for (int second = 0; second < SECONDS; second++) {
                row[second + 1] = next(second, row[second]);
            }
        }

        private int next(int second, int state) {
            if (!isSecond(second) || way[second] == STILL || isWet(state)) {
                return state;
            }
            int square = squareOf(state);
            int lie = lieOf(state);
            tell(strength[second], second, state);
            int far = Kinds.far(kind, more, law.says(GOES, names), lie);
            boolean turnsAside = (eddies >>> square & 1) != 0;
            int end = slide(square, turnsAside ? Kinds.eddyWay(kind, more, way[second]) : way[second], far);
            if (end == square || !Kinds.turnsOver(kind)) {
                return stateOf(end, lie);
            }
            return stateOf(end, (lie + law.says(TURNS, names)) % LIES);
        }

        private int slide(int square, int heading, int far) {
            int here = square;
            for (int i = 0; i < far; i++) {
                int beside = beside(here, heading);
                if (beside < 0) {
                    break;
                }
                here = beside;
                if ((puddles >>> here & 1) != 0) {
                    break;
                }
            }
            return here;
        }

        private int beside(int square, int heading) {
            int there;
            switch (heading) {
                case 0: there = square - WIDTH; break;
                case 1: there = square % WIDTH < WIDTH - 1 ? square + 1 : NONE; break;
                case 2: there = square + WIDTH; break;
                default: there = square % WIDTH > 0 ? square - 1 : NONE; break;
            }
            return isSquare(there) && (walls >>> there & 1) == 0 ? there : NONE;
        }

        int firstIn(int squares) {
            follow(path);
            for (int n = 0; n <= SECONDS; n++) {
                if ((squares >>> squareOf(path[n]) & 1) != 0) {
                    return n;
                }
            }
            return NONE;
        }

        int hadBy(Catcher catcher) {
            follow(path);
            return had(path, catcher.square, 0, catcher.pace, catcher.reach);
        }

        /** What is in reach grows by a catcher's pace each second, so no distance need be counted. */
        int had(int[] row, int square, int m, int pace, int reach) {
            int inReach = spread(1 << square, reach);
            for (int n = m; n <= SECONDS; n++) {
                if ((inReach >>> squareOf(row[n]) & 1) != 0) {
                    return n;
                }
                inReach = spread(inReach, pace);
            }
            return NONE;
        }

        private int spread(int squares, int steps) {
            int all = squares;
            for (int i = 0; i < steps; i++) {
                int beside = all >>> WIDTH | all << WIDTH | (all & NOT_RIGHT_EDGE) << 1 | (all & NOT_LEFT_EDGE) >>> 1;
                all |= beside & ~walls;
            }
            return all;
        }

        int elsewhere(Sheet told, int state) {
            int s = state;
            for (int i = 0; i < told.size; i++) {
                if (told.row[i] != squareOf(s)) {
                    return i;
                }
                s = next(i, s);
            }
            return NONE;
        }
    }

    /** Tries the orders from the first on, so that of like ones the first stays. */
    private static final class Errand {
        final int[][] paths = new int[MOST_HATS][SECONDS + 1];
        int best, end;
        private int hats, pace, reach;

        void plan(Thought mind, Catcher catcher, int hatCount) {
            best = NONE;
            end = NONE;
            hats = hatCount;
            pace = catcher.pace;
            reach = catcher.reach;
            fetch(mind, 0, 0, catcher.square, 0);
        }

        private void fetch(Thought mind, int fetched, int digits, int square, int m) {
            if (fetched == (1 << hats) - 1) {
                if (isSooner(m, end)) {
                    best = digits;
                    end = m;
                }
                return;
            }
            for (int h = 0; h < hats; h++) {
                if ((fetched >>> h & 1) == 0) {
                    int n = mind.had(paths[h], square, m, pace, reach);
                    if (n >= 0) {
                        fetch(mind, fetched | 1 << h, 10 * digits + h + 1, squareOf(paths[h][n]), n);
                    }
                }
            }
        }
    }

    /** A text as it has been read: numbers, names and signs, each sign behind what it joins. */
    private static final class Law {
        static final int NAMES = 6;
        static final int OR = -11, AND = -12, NOT = -13, LESS = -14, SAME = -15;
        static final int PLUS = -16, MINUS = -17, TIMES = -18, NEGATE = -19;
        private static final int MOST_GOES = 9, MOST_WORTH = 99, MOST_PENDING = 40;

        private final int[] code = new int[MOST_TAPE];
        private final int[] ends = new int[PARTS];
        private final int[] pending = new int[MOST_PENDING];
        private int used = 0;

        void clear() {
            used = 0;
        }

        void add(int word) {
            if (used < MOST_TAPE) {
                code[used] = word;
                used++;
            }
        }

        void addName(int name) {
            add(-1 - name);
        }

        void endPart(int part) {
            if (part >= 0 && part < PARTS) {
                ends[part] = used;
            }
        }

        int says(int part, int[] names) {
            if (part < 0 || part >= PARTS) {
                return 0;
            }
            int top = 0;
            for (int i = part == 0 ? 0 : ends[part - 1]; i < ends[part]; i++) {
                int word = code[i];
                if (word >= -NAMES) {
                    if (top < MOST_PENDING) {
                        pending[top] = word >= 0 ? word : names[-1 - word];
                        top++;
                    }
                } else if (word == NOT || word == NEGATE) {
                    if (top >= 1) {
                        pending[top - 1] = changed(word, pending[top - 1]);
                    }
                } else if (top >= 2) {
                    top--;
                    pending[top - 1] = joined(word, pending[top - 1], pending[top]);
                }
            }
            return withinBounds(part, pending[0]);
        }

        private static int withinBounds(int part, int v) {
            switch (part) {
                case GOES: return bounded(v, 0, MOST_GOES);
                case TURNS: return Math.floorMod(v, LIES);
                default: return bounded(v, -MOST_WORTH, MOST_WORTH);
            }
        }

        private static int changed(int word, int a) {
            if (word == NEGATE) {
                return -a;
            }
            return a == 0 ? 1 : 0;
        }

        private static int joined(int word, int a, int b) {
            switch (word) {
                case OR: return a != 0 || b != 0 ? 1 : 0;
                case AND: return a != 0 && b != 0 ? 1 : 0;
                case LESS: return a < b ? 1 : 0;
                case SAME: return a == b ? 1 : 0;
                case PLUS: return a + b;
                case MINUS: return a - b;
                default: return a * b;
            }
        }
    }

    /**
     * Holds the tape, parts it into tokens, then reads these one by one: none is taken that can't stand there,
     * so the one at which it stops is the fault.
     */
    private static final class Reader {
        private static final int END = 0, NO_TOKEN = 1, NUMBER = 2, NAME = 3;
        private static final int KEY_GOES = 4, KEY_TURNS = 5, KEY_WORTH = 6, KEY_OR = 7, KEY_AND = 8, KEY_NOT = 9;
        private static final int MOST_OPEN = 5, MOST_DIGITS = 4;

        int fed = 0;
        private final int[] tape = new int[MOST_TAPE];
        private final int[] tokens = new int[MOST_TAPE + 1];
        private final int[] places = new int[MOST_TAPE + 1];
        private final int[] values = new int[MOST_TAPE + 1];
        private int next, token, fault;
        private Law law = new Law();

        void put(int b) {
            if (fed < MOST_TAPE) {
                tape[fed] = b;
                fed++;
            }
        }

        /** Empties the tape; answers the place of the fault, or -1. */
        int readInto(Law text) {
            partTokens();
            fed = 0;
            fault = NONE;
            law = text;
            law.clear();
            next = 0;
            token = tokens[0];
            readPart(KEY_GOES, GOES);
            readPart(KEY_TURNS, TURNS);
            readPart(KEY_WORTH, WORTH);
            expect(END);
            return fault;
        }

        private void readPart(int key, int part) {
            expect(key);
            readOr(0);
            expect(';');
            law.endPart(part);
        }

        private void readOr(int open) {
            readAnd(open);
            for (int i = 0; i < MOST_TAPE && token == KEY_OR; i++) {
                advance();
                readAnd(open);
                law.add(Law.OR);
            }
        }

        private void readAnd(int open) {
            readNot(open);
            for (int i = 0; i < MOST_TAPE && token == KEY_AND; i++) {
                advance();
                readNot(open);
                law.add(Law.AND);
            }
        }

        private void readNot(int open) {
            if (token == KEY_NOT && open < MOST_OPEN) {
                advance();
                readNot(open + 1);
                law.add(Law.NOT);
                return;
            }
            readSum(open);
            if (token == '<' || token == '=') {
                int sign = token == '<' ? Law.LESS : Law.SAME;
                advance();
                readSum(open);
                law.add(sign);
            }
        }

        private void readSum(int open) {
            readTerm(open);
            for (int i = 0; i < MOST_TAPE && (token == '+' || token == '-'); i++) {
                int sign = token == '+' ? Law.PLUS : Law.MINUS;
                advance();
                readTerm(open);
                law.add(sign);
            }
        }

        private void readTerm(int open) {
            readOne(open);
            for (int i = 0; i < MOST_TAPE && token == '*'; i++) {
                advance();
                readOne(open);
                law.add(Law.TIMES);
            }
        }

        private void readOne(int open) {
            if (token == NUMBER) {
                law.add(values[next]);
                advance();
            } else if (token == NAME) {
                law.addName(values[next]);
                advance();
            } else if (token == '-' && open < MOST_OPEN) {
                advance();
                readOne(open + 1);
                law.add(Law.NEGATE);
            } else if (token == '(' && open < MOST_OPEN) {
                advance();
                readOr(open + 1);
                expect(')');
            } else {
                refuse();
            }
        }

        private void expect(int wanted) {
            if (token == wanted) {
                advance();
            } else {
                refuse();
            }
        }

        /** Behind a fault nothing more is read: no token there is one that anything waits for. */
        private void refuse() {
            if (fault < 0) {
                fault = places[next];
            }
            token = NO_TOKEN;
        }

        private void advance() {
            if (next < MOST_TAPE) {
                next++;
            }
            token = tokens[next];
        }

        /** Nothing is read beyond a byte or word that is no token, so the row may end there as well. */
        private void partTokens() {
            int place = 0;
            int many = 0;
            int last = NONE;
            while (many <= MOST_TAPE && last != END && last != NO_TOKEN) {
                place = behindBlanks(place);
                int end = tokenEnd(place);
                last = tokenBetween(place, end);
                tokens[many] = last;
                places[many] = place;
                values[many] = valueOf(last, place, end);
                many++;
                place = end;
            }
        }

        private int byteAt(int i) {
            return i >= 0 && i < fed ? tape[i] : NONE;
        }

        private int behindBlanks(int place) {
            int end = place;
            for (int i = 0; i < MOST_TAPE && (byteAt(end) == ' ' || byteAt(end) == '\n'); i++) {
                end++;
            }
            return end;
        }

        private int tokenEnd(int place) {
            int end = Math.min(place + 1, fed);
            boolean isWord = isLetter(byteAt(place));
            if (isWord || isDigit(byteAt(place))) {
                for (int i = 0; i < MOST_TAPE && (isWord ? isLetter(byteAt(end)) : isDigit(byteAt(end))); i++) {
                    end++;
                }
            }
            return end;
        }

        private int tokenBetween(int place, int end) {
            int b = byteAt(place);
            if (b < 0) {
                return END;
            }
            if (isDigit(b)) {
                return end - place > MOST_DIGITS ? NO_TOKEN : NUMBER;
            }
            if (isLetter(b)) {
                return nameBetween(place, end) >= 0 ? NAME : keyBetween(place, end);
            }
            return isSign(b) ? b : NO_TOKEN;
        }

        private int valueOf(int kind, int place, int end) {
            if (kind == NAME) {
                return nameBetween(place, end);
            }
            int number = 0;
            for (int i = place; i < end && kind == NUMBER; i++) {
                number = 10 * number + byteAt(i) - '0';
            }
            return number;
        }

        private static boolean isLetter(int b) {
            return b >= 'a' && b <= 'z';
        }

        private static boolean isDigit(int b) {
            return b >= '0' && b <= '9';
        }

        private static boolean isSign(int b) {
            return b == '(' || b == ')' || b == ';' || b == '+' || b == '-' || b == '*' || b == '<' || b == '=';
        }

        private int nameBetween(int place, int end) {
            return isWord("strength", place, end) ? 0 : isWord("lie", place, end) ? 1
                : isWord("more", place, end) ? 2 : isWord("second", place, end) ? 3
                : isWord("cell", place, end) ? 4 : isWord("kind", place, end) ? 5 : NONE;
        }

        private int keyBetween(int place, int end) {
            return isWord("goes", place, end) ? KEY_GOES : isWord("turns", place, end) ? KEY_TURNS
                : isWord("worth", place, end) ? KEY_WORTH : isWord("or", place, end) ? KEY_OR
                : isWord("and", place, end) ? KEY_AND : isWord("not", place, end) ? KEY_NOT : NO_TOKEN;
        }

        private boolean isWord(String word, int place, int end) {
            if (end - place != word.length()) {
                return false;
            }
            for (int i = 0; i < word.length(); i++) {
                if (byteAt(place + i) != word.charAt(i)) {
                    return false;
                }
            }
            return true;
        }
    }

    private static final class Sheet {
        private static final int BYTES = 0, SHORTS = 1;

        int sort = MISSING;
        int size = 0;
        final int[] row = new int[MOST_SIZE];

        void becomeEmpty(int newSort, int newSize) {
            sort = newSort;
            size = newSize;
            for (int i = 0; i < MOST_SIZE; i++) {
                row[i] = 0;
            }
        }

        void put(int i, int v) {
            if (i < 0 || i >= size) {
                return;
            }
            row[i] = sort == BYTES ? (byte) v : sort == SHORTS ? (short) v : v;
        }
    }
}
