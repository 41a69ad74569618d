import java.util.Arrays;

/** A sea told as a text, words that its currents carry, and what can be asked of them. */
public final class HallShells {

    /** There is none. */
    public static final int NONE = -1;

    // What refused calls answer.
    private static final int NO_SUCH = -2;
    private static final int BAD_NUMBER = -3;
    private static final int WRONG_SIZE = -4;
    private static final int NOT_NOW = -5;
    private static final int TRAY_MISSING = -6;
    private static final int NO_PLACE = -7;
    private static final int LESS_WHY = -10;
    private static final int LESS_FAULT = -30;

    // The document's limits.
    private static final int MOST_BYTES = 900;
    private static final int MOST_BEACHES = 6;
    private static final int MOST_CURRENTS = 10;
    private static final int MOST_PEOPLE = 6;
    private static final int MOST_SHELLS = 8;
    private static final int MOST_WORDS = 8;
    private static final int MOST_NESTED = 6;
    private static final int MOST_UNDONE = 10;
    private static final int MOST_NUMBERS = 40;
    private static final int MOST_HEARD = 24;
    private static final int MOST_TIMES = 30;
    private static final int TRAYS = 4;
    private static final int SORTS = 4;
    private static final int IMAGES = 2;
    private static final int DAY = 24;
    private static final int LONGEST_WAY = 9;
    private static final int LONGEST_GALE = 99;
    private static final int LAST_FIRST_HOUR = 999;
    private static final int LONGEST_CALL = 48;
    private static final int LATEST_CALL = 23;
    private static final int TO_COME = 99;
    private static final int FURTHEST_SOUND = 999;
    private static final int HIGHEST_SOUND = 99;
    private static final int LAW_BOUND = 1_000_000;

    // FAULTS of a text.
    private static final int NO_TOKEN_FAULT = 1;
    private static final int PLACE_FAULT = 2;
    private static final int BOUNDS_FAULT = 3;
    private static final int MANY_FAULT = 4;

    // The laws, by number.
    private static final int SOUNDS = 0;
    private static final int OPEN = 1;
    private static final int LISTENS = 2;
    private static final int LAWS = 3;

    // What a token is: a sign is its own character, a number is NUMBER and its value.
    private static final int END = 0;
    private static final int NO_TOKEN = 1;
    private static final int STRANGE_WORD = 2;
    private static final int W_SEA = 200;
    private static final int W_CURRENT = 201;
    private static final int W_TAKES = 202;
    private static final int W_PERSON = 203;
    private static final int W_AT = 204;
    private static final int W_DEAF = 205;
    private static final int W_SHELL = 206;
    private static final int W_BY = 207;
    private static final int W_SOUNDS = 208;
    private static final int W_OPEN = 209;
    private static final int W_LISTENS = 210;
    private static final int W_GALE = 211;
    private static final int W_HOUR = 212;
    private static final int W_OR = 213;
    private static final int W_AND = 214;
    private static final int W_NOT = 215;
    private static final int W_BEACH = 216;
    private static final int W_FROM = 217;
    private static final int W_TO = 218;
    private static final int W_WHO = 219;
    private static final int W_HOME = 220;
    private static final int W_WORDS = 221;
    private static final int NUMBER = 1000;
    private static final String SIGNS = ";:+-*()[]=<>";
    /** In the order of the numbers above, each with a blank behind it. */
    private static final String ALL_WORDS = "sea current takes person at deaf shell by sounds open listens gale hour or and not beach from to who home words ";

    // A law's code, operands first: a number below 1000 is itself, GIVEN + i the i-th given one.
    private static final int GIVEN = 1000;
    private static final int GIVEN_HOUR = 1000;
    private static final int GIVEN_GALE = 1001;
    private static final int GIVEN_FIRST = 1002;
    private static final int GIVEN_SECOND = 1003;
    private static final int GIVEN_THIRD = 1004;
    private static final int GIVENS = 5;
    private static final int NOT = 1010;
    private static final int PLUS = 1011;
    private static final int MINUS = 1012;
    private static final int TIMES = 1013;
    private static final int EQUAL = 1014;
    private static final int LESS = 1015;
    private static final int MORE = 1016;
    private static final int AND = 1017;
    private static final int OR = 1018;
    /** Six within one another hold at most five operands each; this is far above. */
    private static final int STACK = 64;

    // The numbers of DEEDS in a TRAY.
    private static final int GIVE_DEEDS = 100;
    private static final int NO_DEEDS = 900;
    private static final int LAY_DEEDS = 1000;
    private static final int GALE_DEEDS = 2000;
    private static final int DEEDS_OF_A_KIND = 100;
    private static final int NO_SUCH_DEED = 1;
    private static final int NOT_THIS_DEED = 2;

    /** HOURS for which a CALL is looked ahead: the latest WHISPERING, the longest CALL, this HOUR. */
    private static final int SPAN = 72;
    /** An HOUR behind all that are looked at. */
    private static final int NEVER = 100_000;

    private final byte[] tape;
    private int taped;
    private int faultKind;
    private int faultPlace;
    private final Sea sea;
    private final Reader reader;
    private final Rules rules;
    private final State now;
    private final State probe;
    private final History history;
    private final Calls calls;
    private final Pairing pairing;
    private final Tray[] trays;
    private final Image[] images;
    private final int[] reached;

    public HallShells() {
        tape = new byte[MOST_BYTES];
        taped = 0;
        faultKind = 0;
        faultPlace = NONE;
        sea = new Sea();
        reader = new Reader();
        rules = new Rules(sea);
        now = new State();
        probe = new State();
        history = new History();
        calls = new Calls(sea, rules, now);
        pairing = new Pairing();
        trays = new Tray[TRAYS];
        for (int i = 0; i < TRAYS; i++) {
            trays[i] = new Tray();
        }
        images = new Image[IMAGES];
        reached = new int[MOST_BEACHES];
    }

    // ---- the sea

    public int feed(int a, int b, int c, int d, int e) {
        if (taped + 20 > MOST_BYTES) {
            return NOT_NOW;
        }
        putOnTape(a);
        putOnTape(b);
        putOnTape(c);
        putOnTape(d);
        putOnTape(e);
        return taped;
    }

    public int sea(int n) {
        if (n < 0 || n > taped) {
            return BAD_NUMBER;
        }
        taped = 0;
        boolean well = reader.read(tape, n);
        faultKind = reader.fault;
        faultPlace = reader.place;
        if (!well) {
            return LESS_FAULT - faultKind;
        }
        sea.copyFrom(reader.sea);
        rules.forget();
        now.begin(sea);
        history.forget();
        return sea.lines;
    }

    public int fault(int what) {
        if (what == 0) {
            return faultKind;
        }
        return what == 1 ? faultPlace : NONE;
    }

    public int current(int k, int what) {
        if (k < 0 || k >= sea.currents) {
            return NO_SUCH;
        }
        switch (what) {
            case 0:
                return sea.from[k];
            case 1:
                return sea.to[k];
            case 2:
                return sea.takes[k];
            case 3:
                return rules.openCurrents(now.hour, now.gale > 0) >> k & 1;
            default:
                return NO_SUCH;
        }
    }

    public int person(int p, int what) {
        if (!isPerson(p)) {
            return NO_SUCH;
        }
        switch (what) {
            case 0:
                return sea.home[p];
            case 1:
                return sea.deaf >> p & 1;
            case 2:
                return now.heardBy[p];
            case 3:
                return now.shellsOf(sea, p);
            case 4:
                return rules.listeners(now.hour, now.gale > 0, Integer.bitCount(now.heardBy[p])) >> p & 1;
            default:
                return NO_SUCH;
        }
    }

    public int shell(int k, int what) {
        if (!isShell(k)) {
            return NO_SUCH;
        }
        if (what == 0) {
            return sea.origin[k];
        }
        return what == 1 ? now.holder[k] : NO_SUCH;
    }

    public int word(int w, int what) {
        if (!isWord(w)) {
            return NO_SUCH;
        }
        switch (what) {
            case 0:
                return now.at[w];
            case 1:
                return Integer.bitCount(now.under[w]);
            case 2:
                return now.hearersOf(w);
            default:
                return NO_SUCH;
        }
    }

    public int sound(int b, int n) {
        if (!isBeach(b)) {
            return NO_SUCH;
        }
        if (!within(n, 0, FURTHEST_SOUND)) {
            return BAD_NUMBER;
        }
        return soundIn(b, n);
    }

    // ---- deeds

    public int seed(int n) {
        int was = now.x;
        history.keep(now);
        now.x = n;
        return was;
    }

    public int whisper(int b) {
        int why = deed(isBeach(b) ? b : NO_DEEDS);
        return why == 0 ? now.words - 1 : LESS_WHY - why;
    }

    public int give(int k, int p) {
        if (!isShell(k) || !isPerson(p)) {
            return LESS_WHY - NO_SUCH_DEED;
        }
        int held = now.holder[k];
        deed(GIVE_DEEDS + k * DEEDS_OF_A_KIND + p);
        return held;
    }

    public int lay(int k) {
        int held = isShell(k) ? now.holder[k] : NONE;
        int why = deed(isShell(k) ? LAY_DEEDS + k : NO_DEEDS);
        return why == 0 ? held : LESS_WHY - why;
    }

    public int gale(int n) {
        if (!within(n, 0, LONGEST_GALE)) {
            return BAD_NUMBER;
        }
        int was = now.gale;
        deed(GALE_DEEDS + n);
        return was;
    }

    public int hours(int n) {
        if (!within(n, 1, LONGEST_CALL)) {
            return BAD_NUMBER;
        }
        history.keep(now);
        int first = 0;
        for (int i = 0; i < n; i++) {
            first += now.passHour(sea, rules);
        }
        return first;
    }

    public int undo(int n) {
        if (!within(n, 1, history.size)) {
            return BAD_NUMBER;
        }
        history.takeBack(now, n);
        return history.size;
    }

    public int judge(int tray, int what) {
        if (!isTray(tray) || !within(what, 0, 3)) {
            return NO_SUCH;
        }
        Tray deeds = trays[tray];
        if (deeds.isMissing()) {
            return TRAY_MISSING;
        }
        probe.copyFrom(now);
        int done = probe.attemptAll(deeds, sea, rules);
        boolean all = done == deeds.size;
        switch (what) {
            case 0:
                return all ? NONE : done;
            case 1:
                return all ? 0 : probe.attempt(deeds.values[done], sea, rules);
            case 2:
                return probe.hour;
            default:
                return probe.heardAll(sea);
        }
    }

    public int perform(int tray) {
        if (!isTray(tray)) {
            return NO_SUCH;
        }
        if (trays[tray].isMissing()) {
            return TRAY_MISSING;
        }
        probe.copyFrom(now);
        int done = probe.attemptAll(trays[tray], sea, rules);
        if (done > 0) {
            history.keep(now);
            now.copyFrom(probe);
        }
        return done;
    }

    public int days(int seed, int times) {
        if (!within(times, 1, MOST_TIMES)) {
            return BAD_NUMBER;
        }
        probe.copyFrom(now);
        probe.x = seed;
        int could = 0;
        for (int i = 0; i < times; i++) {
            if (probe.drawDeed(sea, rules)) {
                could++;
            }
        }
        if (could > 0) {
            history.keep(now);
            now.copyFrom(probe);
        }
        return could;
    }

    // ---- words to come

    public int comesIn(int w, int b) {
        if (!isWord(w) || !isBeach(b)) {
            return NO_SUCH;
        }
        probe.copyFrom(now);
        for (int n = 0; n <= TO_COME; n++) {
            if ((probe.at[w] >> b & 1) == 1) {
                return n;
            }
            probe.passHour(sea, rules);
        }
        return NONE;
    }

    public int hearsIn(int w, int p) {
        if (!isWord(w) || !isPerson(p)) {
            return NO_SUCH;
        }
        probe.copyFrom(now);
        for (int n = 0; n <= TO_COME; n++) {
            if ((probe.heardBy[p] >> w & 1) == 1) {
                return n;
            }
            probe.passHour(sea, rules);
        }
        return NONE;
    }

    public int heard(int w, int n) {
        if (!isWord(w)) {
            return NO_SUCH;
        }
        if (!within(n, 0, TO_COME)) {
            return BAD_NUMBER;
        }
        probeHours(n);
        return probe.hearersOf(w);
    }

    public int loudest(int n) {
        if (!within(n, 0, TO_COME)) {
            return BAD_NUMBER;
        }
        probeHours(n);
        int best = NONE;
        int most = -1;
        for (int w = 0; w < probe.words; w++) {
            int heardBy = Integer.bitCount(probe.hearersOf(w));
            if (heardBy > most) {
                most = heardBy;
                best = w;
            }
        }
        return best;
    }

    // ---- calls

    public int hearers(int b, int w, int n) {
        if (!isBeach(b)) {
            return NO_SUCH;
        }
        if (!within(w, 0, LATEST_CALL) || !within(n, 0, LONGEST_CALL)) {
            return BAD_NUMBER;
        }
        calls.lookAhead(w + n);
        calls.send(b, w, 0);
        return calls.hearersBy(w + n);
    }

    public int far(int b, int c) {
        if (!isBeach(b) || !isBeach(c)) {
            return NO_SUCH;
        }
        calls.lookAhead(LONGEST_CALL);
        calls.send(b, 0, 0);
        int hour = calls.arrival[c];
        return hour <= LONGEST_CALL ? hour : NONE;
    }

    public int reaches(int b, int p) {
        if (!isBeach(b) || !isPerson(p)) {
            return NO_SUCH;
        }
        calls.lookAhead(LONGEST_CALL);
        calls.send(b, 0, 0);
        int hour = calls.hourHeard(p);
        return hour <= LONGEST_CALL ? hour : NONE;
    }

    public int secret(int set, int n, int what) {
        if (!within(what, 0, 1)) {
            return NO_SUCH;
        }
        if (set < 0 || set >= 1 << sea.people || !within(n, 0, LONGEST_CALL)) {
            return BAD_NUMBER;
        }
        calls.lookAhead(LATEST_CALL + n);
        for (int w = 0; w <= LATEST_CALL; w++) {
            for (int b = 0; b < sea.beaches; b++) {
                calls.send(b, w, 0);
                if (calls.hearersBy(w + n) == set) {
                    return what == 0 ? w : b;
                }
            }
        }
        return NONE;
    }

    public int widest(int n) {
        if (!within(n, 0, LONGEST_CALL)) {
            return BAD_NUMBER;
        }
        calls.lookAhead(n);
        int best = NONE;
        int most = -1;
        for (int b = 0; b < sea.beaches; b++) {
            calls.send(b, 0, 0);
            int hearers = Integer.bitCount(calls.hearersBy(n));
            if (hearers > most) {
                most = hearers;
                best = b;
            }
        }
        return best;
    }

    public int shut(int b, int p, int n, int what) {
        if (!isBeach(b) || !isPerson(p) || !within(what, 0, 1)) {
            return NO_SUCH;
        }
        if (!within(n, 0, LONGEST_CALL)) {
            return BAD_NUMBER;
        }
        calls.lookAhead(n);
        return numberOrSet(calls.fewestToShut(b, p, n), what);
    }

    public int take(int b, int p, int n, int what) {
        if (!isBeach(b) || !isPerson(p) || !within(what, 0, 1)) {
            return NO_SUCH;
        }
        if (!within(n, 0, LONGEST_CALL)) {
            return BAD_NUMBER;
        }
        calls.lookAhead(n);
        calls.send(b, 0, 0);
        return numberOrSet(calls.shellsToTake(p, n), what);
    }

    public int needs(int b, int n) {
        if (!isBeach(b)) {
            return NO_SUCH;
        }
        if (!within(n, 0, LONGEST_CALL)) {
            return BAD_NUMBER;
        }
        calls.lookAhead(n);
        calls.send(b, 0, 0);
        int all = Integer.bitCount(calls.hearersBy(n));
        int needed = 0;
        for (int k = 0; k < sea.currents; k++) {
            calls.send(b, 0, 1 << k);
            if (Integer.bitCount(calls.hearersBy(n)) < all) {
                needed |= 1 << k;
            }
        }
        return needed;
    }

    public int spies(int k, int n, int what) {
        if (!within(what, 0, 1)) {
            return NO_SUCH;
        }
        if (!within(k, 1, sea.beaches) || !within(n, 0, LONGEST_CALL)) {
            return BAD_NUMBER;
        }
        findReached(n);
        int best = bestSpies(k);
        return what == 0 ? watchedBy(best) : best;
    }

    public int watch(int n) {
        if (!within(n, 0, LONGEST_CALL)) {
            return BAD_NUMBER;
        }
        findReached(n);
        for (int k = 1; k < sea.beaches; k++) {
            if (watchedBy(bestSpies(k)) == sea.beaches) {
                return k;
            }
        }
        return sea.beaches;
    }

    // ---- who hears whom

    public int hears(int p) {
        return isPerson(p) ? now.hearable(sea, p) : NO_SUCH;
    }

    public int mutual() {
        return now.mutualTwos(sea);
    }

    public int passes(int p, int q) {
        if (!isPerson(p) || !isPerson(q) || p == q) {
            return NO_SUCH;
        }
        int know = 1 << p;
        for (int steps = 1; steps < sea.people; steps++) {
            int next = know;
            for (int r = 0; r < sea.people; r++) {
                if ((now.hearable(sea, r) & know) != 0) {
                    next |= 1 << r;
                }
            }
            if ((next >> q & 1) == 1) {
                return steps;
            }
            know = next;
        }
        return NONE;
    }

    public int gift() {
        probe.copyFrom(now);
        int most = now.mutualTwos(sea);
        int best = NONE;
        for (int k = 0; k < sea.shells; k++) {
            for (int p = 0; p < sea.people; p++) {
                probe.holder[k] = p;
                int twos = probe.mutualTwos(sea);
                if (now.holder[k] != p && twos > most) {
                    most = twos;
                    best = 10 * k + p;
                }
            }
            probe.holder[k] = now.holder[k];
        }
        return best;
    }

    // ---- sounds

    public int fits(int tray) {
        int code = heardCode(tray);
        return code == 0 ? fitting(trays[tray]) : code;
    }

    public int slips(int tray, int b) {
        if (!isBeach(b)) {
            return NO_SUCH;
        }
        int code = heardCode(tray);
        return code == 0 ? slipsOf(trays[tray], b) : code;
    }

    public int likeliest(int tray) {
        int code = heardCode(tray);
        if (code != 0) {
            return code;
        }
        int best = NONE;
        int fewest = MOST_HEARD + 1;
        for (int b = 0; b < sea.beaches; b++) {
            int slips = slipsOf(trays[tray], b);
            if (slips < fewest) {
                fewest = slips;
                best = b;
            }
        }
        return best;
    }

    public int look(int tray) {
        int code = heardCode(tray);
        if (code != 0) {
            return code;
        }
        int set = fitting(trays[tray]);
        if (set == 0) {
            return NONE;
        }
        int best = NONE;
        int least = MOST_BEACHES + 1;
        for (int n = 0; n <= TO_COME; n++) {
            int alike = mostAlike(set, n);
            if (alike < least) {
                least = alike;
                best = n;
            }
        }
        return best;
    }

    public int unlike(int b, int c) {
        if (!isBeach(b) || !isBeach(c)) {
            return NO_SUCH;
        }
        return unlikeHours(b, c);
    }

    public int pairs(int what) {
        int k = what < 10 ? NONE : what - 10;
        if (what != 0 && !isShell(k)) {
            return NO_SUCH;
        }
        for (int i = 0; i < sea.shells; i++) {
            for (int j = i + 1; j < sea.shells; j++) {
                pairing.setCost(i, j, unlikeHours(sea.origin[i], sea.origin[j]));
            }
        }
        pairing.solve(sea.shells);
        return what == 0 ? pairing.leastSum : pairing.best[k];
    }

    // ---- trays, images

    public int numbers(int tray, int sort, int n) {
        if (!isTray(tray) || !within(sort, 0, SORTS - 1)) {
            return NO_SUCH;
        }
        if (!within(n, 0, MOST_NUMBERS)) {
            return BAD_NUMBER;
        }
        trays[tray].begin(sort, n);
        return 0;
    }

    public long write(int tray, int i, long v) {
        if (!isTray(tray)) {
            return NO_SUCH;
        }
        if (trays[tray].isMissing()) {
            return TRAY_MISSING;
        }
        if (!within(i, 0, trays[tray].size - 1)) {
            return NO_PLACE;
        }
        return trays[tray].put(i, v);
    }

    public int lists(int tray, int k) {
        if (!isTray(tray) || !isShell(k)) {
            return NO_SUCH;
        }
        if (trays[tray].isMissing()) {
            return TRAY_MISSING;
        }
        int places = trays[tray].size;
        for (int i = 0; i < places; i++) {
            trays[tray].put(i, soundIn(sea.origin[k], i));
        }
        return places;
    }

    public int image(int i) {
        if (!within(i, 0, IMAGES - 1)) {
            return NO_SUCH;
        }
        if (images[i] == null) {
            images[i] = new Image();
        }
        images[i].sea.copyFrom(sea);
        images[i].state.copyFrom(now);
        return 0;
    }

    public int restore(int i) {
        if (!within(i, 0, IMAGES - 1)) {
            return NO_SUCH;
        }
        if (images[i] == null) {
            return NOT_NOW;
        }
        sea.copyFrom(images[i].sea);
        now.copyFrom(images[i].state);
        rules.forget();
        history.forget();
        return 0;
    }

    public int count(int what) {
        switch (what) {
            case 0:
                return sea.beaches;
            case 1:
                return sea.currents;
            case 2:
                return sea.people;
            case 3:
                return sea.shells;
            case 4:
                return now.words;
            case 5:
                return now.hour;
            case 6:
                return now.gale;
            case 7:
                return history.size;
            case 8:
                return taped;
            case 9:
                return sea.lines;
            default:
                return NONE;
        }
    }

    // ---- parts of the calls above

    private void putOnTape(int four) {
        for (int shift = 24; shift >= 0 && taped < MOST_BYTES; shift -= 8) {
            tape[taped] = (byte) (four >> shift);
            taped++;
        }
    }

    private static boolean within(int n, int least, int most) {
        return n >= least && n <= most;
    }

    private boolean isBeach(int b) {
        return b >= 0 && b < sea.beaches;
    }

    private boolean isPerson(int p) {
        return p >= 0 && p < sea.people;
    }

    private boolean isShell(int k) {
        return k >= 0 && k < sea.shells;
    }

    private boolean isWord(int w) {
        return w >= 0 && w < now.words;
    }

    private boolean isTray(int tray) {
        return tray >= 0 && tray < TRAYS;
    }

    /** Does one of the DEEDS so that it can be UNDONE: why not, 0 if it is done. */
    private int deed(int number) {
        probe.copyFrom(now);
        int why = now.attempt(number, sea, rules);
        if (why == 0) {
            history.keep(probe);
        }
        return why;
    }

    private void probeHours(int n) {
        probe.copyFrom(now);
        for (int i = 0; i < n; i++) {
            probe.passHour(sea, rules);
        }
    }

    private int soundIn(int b, int n) {
        return rules.soundOf(b, now.hour + n, now.gale > n);
    }

    private static int numberOrSet(int set, int what) {
        if (set == NONE) {
            return NONE;
        }
        return what == 0 ? Integer.bitCount(set) : set;
    }

    /** Of each BEACH, the BEACHES to which a CALL from there comes within n HOURS. */
    private void findReached(int n) {
        calls.lookAhead(n);
        for (int b = 0; b < sea.beaches; b++) {
            calls.send(b, 0, 0);
            reached[b] = calls.beachesBy(n);
        }
    }

    private int bestSpies(int k) {
        int best = 0;
        int most = -1;
        for (int set = 1; set < 1 << sea.beaches; set++) {
            if (Integer.bitCount(set) == k && watchedBy(set) > most) {
                most = watchedBy(set);
                best = set;
            }
        }
        return best;
    }

    private int watchedBy(int set) {
        int watched = 0;
        for (int b = 0; b < sea.beaches; b++) {
            if ((reached[b] & set) != 0) {
                watched++;
            }
        }
        return watched;
    }

    private int heardCode(int tray) {
        if (!isTray(tray)) {
            return NO_SUCH;
        }
        if (trays[tray].isMissing()) {
            return TRAY_MISSING;
        }
        return within(trays[tray].size, 1, MOST_HEARD) ? 0 : WRONG_SIZE;
    }

    private int slipsOf(Tray told, int b) {
        int slips = 0;
        for (int i = 0; i < told.size; i++) {
            if (told.values[i] != NONE && told.values[i] != soundIn(b, i)) {
                slips++;
            }
        }
        return slips;
    }

    private int fitting(Tray told) {
        int set = 0;
        for (int b = 0; b < sea.beaches; b++) {
            if (slipsOf(told, b) == 0) {
                set |= 1 << b;
            }
        }
        return set;
    }

    /** The greatest number of BEACHES of a set that sound alike in n HOURS. */
    private int mostAlike(int set, int n) {
        int most = 0;
        for (int b = 0; b < sea.beaches; b++) {
            int alike = 0;
            for (int c = 0; c < sea.beaches; c++) {
                boolean both = (set >> b & set >> c & 1) == 1;
                if (both && soundIn(b, n) == soundIn(c, n)) {
                    alike++;
                }
            }
            most = Math.max(most, alike);
        }
        return most;
    }

    private int unlikeHours(int b, int c) {
        int unlike = 0;
        for (int n = 0; n < DAY; n++) {
            if (soundIn(b, n) != soundIn(c, n)) {
                unlike++;
            }
        }
        return unlike;
    }

    /** What a text tells. */
    private static final class Sea {
        int beaches = 1;
        int currents;
        int people;
        int shells;
        int lines;
        int firstHour;
        int firstGale;
        /** People, as bits. */
        int deaf;
        final int[] from = new int[MOST_CURRENTS];
        final int[] to = new int[MOST_CURRENTS];
        final int[] takes = new int[MOST_CURRENTS];
        final int[] home = new int[MOST_PEOPLE];
        final int[] origin = new int[MOST_SHELLS];
        final int[] firstHolder = new int[MOST_SHELLS];
        final Laws laws = new Laws();

        void clear() {
            beaches = 1;
            currents = 0;
            people = 0;
            shells = 0;
            lines = 0;
            firstHour = 0;
            firstGale = 0;
            deaf = 0;
            laws.clear();
        }

        void copyFrom(Sea other) {
            beaches = other.beaches;
            currents = other.currents;
            people = other.people;
            shells = other.shells;
            lines = other.lines;
            firstHour = other.firstHour;
            firstGale = other.firstGale;
            deaf = other.deaf;
            System.arraycopy(other.from, 0, from, 0, MOST_CURRENTS);
            System.arraycopy(other.to, 0, to, 0, MOST_CURRENTS);
            System.arraycopy(other.takes, 0, takes, 0, MOST_CURRENTS);
            System.arraycopy(other.home, 0, home, 0, MOST_PEOPLE);
            System.arraycopy(other.origin, 0, origin, 0, MOST_SHELLS);
            System.arraycopy(other.firstHolder, 0, firstHolder, 0, MOST_SHELLS);
            laws.copyFrom(other.laws);
        }
    }

    /** The laws of a sea, as code that works on a stack. */
    private static final class Laws {
        private final int[] code = new int[MOST_BYTES];
        private int length;
        private final int[] start = new int[LAWS];
        private final int[] end = new int[LAWS];

        void clear() {
            length = 0;
            Arrays.fill(start, 0);
            Arrays.fill(end, 0);
        }

        void copyFrom(Laws other) {
            length = other.length;
            System.arraycopy(other.code, 0, code, 0, length);
            System.arraycopy(other.start, 0, start, 0, LAWS);
            System.arraycopy(other.end, 0, end, 0, LAWS);
        }

        boolean isTold(int law) {
            return end[law] > start[law];
        }

        /** A law of which there was one already is told anew. */
        void begin(int law) {
            start[law] = length;
            end[law] = length;
        }

        void add(int law, int op) {
            if (length < code.length) {
                code[length] = op;
                length++;
                end[law] = length;
            }
        }

        int valueOf(int law, int[] given, int[] stack) {
            int top = -1;
            stack[0] = 0;
            for (int i = start[law]; i < end[law]; i++) {
                int op = code[i];
                if (op < NOT) {
                    top++;
                    if (top >= stack.length) {
                        return 0;
                    }
                    stack[top] = op < GIVEN ? op : given[Math.min(op - GIVEN, GIVENS - 1)];
                } else if (op == NOT && top >= 0) {
                    stack[top] = 1 - stack[top];
                } else if (top >= 1) {
                    top--;
                    stack[top] = joined(op, stack[top], stack[top + 1]);
                }
            }
            return stack[0];
        }

        private static int joined(int op, long left, long right) {
            switch (op) {
                case PLUS:
                    return (int) Math.max(-LAW_BOUND, Math.min(LAW_BOUND, left + right));
                case MINUS:
                    return (int) Math.max(-LAW_BOUND, Math.min(LAW_BOUND, left - right));
                case TIMES:
                    return (int) Math.max(-LAW_BOUND, Math.min(LAW_BOUND, left * right));
                case EQUAL:
                    return left == right ? 1 : 0;
                case LESS:
                    return left < right ? 1 : 0;
                case MORE:
                    return left > right ? 1 : 0;
                case AND:
                    return left * right == 0 ? 0 : 1;
                default:
                    return left + right == 0 ? 0 : 1;
            }
        }
    }

    /** What the laws of a sea answer; kept, as an answer hangs on the HOUR of the day and little else. */
    private static final class Rules {
        private static final int UNKNOWN = -1;
        private final Sea sea;
        private final int[] sounds = new int[2 * DAY * MOST_BEACHES];
        private final int[] open = new int[2 * DAY];
        private final int[] listening = new int[2 * DAY * (MOST_WORDS + 1)];
        private final int[] given = new int[GIVENS];
        private final int[] stack = new int[STACK];

        Rules(Sea sea) {
            this.sea = sea;
            Arrays.fill(sounds, UNKNOWN);
            Arrays.fill(open, UNKNOWN);
            Arrays.fill(listening, UNKNOWN);
        }

        void forget() {
            Arrays.fill(sounds, UNKNOWN);
            Arrays.fill(open, UNKNOWN);
            Arrays.fill(listening, UNKNOWN);
        }

        int soundOf(int b, int hour, boolean gale) {
            int slot = slotOf(hour, gale) * MOST_BEACHES + b;
            if (sounds[slot] == UNKNOWN) {
                int value = 10 * b + (gale ? 1 : 0);
                if (sea.laws.isTold(SOUNDS)) {
                    giveTime(hour, gale);
                    given[2] = b;
                    value = sea.laws.valueOf(SOUNDS, given, stack);
                }
                sounds[slot] = Math.max(0, Math.min(HIGHEST_SOUND, value));
            }
            return sounds[slot];
        }

        /** As bits. */
        int openCurrents(int hour, boolean gale) {
            int slot = slotOf(hour, gale);
            if (open[slot] == UNKNOWN) {
                int all = (1 << sea.currents) - 1;
                int set = gale ? 0 : all;
                if (sea.laws.isTold(OPEN)) {
                    giveTime(hour, gale);
                    set = 0;
                    for (int k = 0; k < sea.currents; k++) {
                        given[2] = sea.from[k];
                        given[3] = sea.to[k];
                        given[4] = sea.takes[k];
                        set |= sea.laws.valueOf(OPEN, given, stack) << k;
                    }
                }
                open[slot] = set;
            }
            return open[slot];
        }

        /** People who, had they HEARD so many WORDS, would listen, as bits. */
        int listeners(int hour, boolean gale, int words) {
            int slot = slotOf(hour, gale) * (MOST_WORDS + 1) + words;
            if (listening[slot] == UNKNOWN) {
                int set = (1 << sea.people) - 1;
                if (sea.laws.isTold(LISTENS)) {
                    giveTime(hour, gale);
                    given[4] = words;
                    set = 0;
                    for (int p = 0; p < sea.people; p++) {
                        given[2] = p;
                        given[3] = sea.home[p] == NONE ? MOST_BEACHES : sea.home[p];
                        set |= sea.laws.valueOf(LISTENS, given, stack) << p;
                    }
                }
                listening[slot] = set & ~sea.deaf;
            }
            return listening[slot];
        }

        private static int slotOf(int hour, boolean gale) {
            return Math.floorMod(hour, DAY) * 2 + (gale ? 1 : 0);
        }

        private void giveTime(int hour, boolean gale) {
            given[0] = Math.floorMod(hour, DAY);
            given[1] = gale ? 1 : 0;
        }
    }

    /** A text as its tokens. */
    private static final class Tokens {
        final int[] kind = new int[MOST_BYTES + 1];
        final int[] place = new int[MOST_BYTES + 1];
        private int size;

        /** Up to the text's end, or to the first place where no token begins. */
        void split(byte[] text, int length) {
            size = 0;
            int at = 0;
            for (int i = 0; i < MOST_BYTES && at < length; i++) {
                int sign = text[at] & 255;
                int end = at + 1;
                if (isLetter(sign) || isDigit(sign)) {
                    end = runEnd(text, at, length);
                    add(isLetter(sign) ? wordOf(text, at, end) : numberOf(text, at, end), at);
                } else if (sign != 10 && sign != 32) {
                    add(SIGNS.indexOf((char) sign) >= 0 ? sign : NO_TOKEN, at);
                }
                if (size > 0 && kind[size - 1] == NO_TOKEN) {
                    return;
                }
                at = end;
            }
            add(END, length);
        }

        private void add(int which, int at) {
            if (size < kind.length) {
                kind[size] = which;
                place[size] = at;
                size++;
            }
        }

        /** Where the letters, or the digits, that begin here come to an end. */
        private static int runEnd(byte[] text, int at, int length) {
            boolean letters = isLetter(text[at]);
            int end = at + 1;
            while (end < length && (letters ? isLetter(text[end]) : isDigit(text[end]))) {
                end++;
            }
            return end;
        }

        private static boolean isLetter(int sign) {
            return sign >= 'a' && sign <= 'z';
        }

        private static boolean isDigit(int sign) {
            return sign >= '0' && sign <= '9';
        }

        private static int numberOf(byte[] text, int at, int end) {
            if (end - at > 3) {
                return NO_TOKEN;
            }
            int value = 0;
            for (int i = at; i < end; i++) {
                value = value * 10 + text[i] - '0';
            }
            return NUMBER + value;
        }

        private static int wordOf(byte[] text, int at, int end) {
            int which = W_SEA;
            int next = at;
            boolean alike = true;
            for (int i = 0; i < ALL_WORDS.length(); i++) {
                char sign = ALL_WORDS.charAt(i);
                if (sign != ' ') {
                    alike = alike && next < end && text[next] == sign;
                    next++;
                } else if (alike && next == end) {
                    return which;
                } else {
                    which++;
                    next = at;
                    alike = true;
                }
            }
            return STRANGE_WORD;
        }
    }

    /** Reads a text; each part that reads answers whether there was no fault. */
    private static final class Reader {
        final Sea sea = new Sea();
        int fault;
        int place;
        private final Tokens tokens = new Tokens();
        private int next;
        private int law;

        boolean read(byte[] text, int length) {
            tokens.split(text, length);
            sea.clear();
            next = 0;
            fault = 0;
            place = NONE;
            boolean well = firstLine();
            for (int i = 0; i < MOST_BYTES && well && kind() != END; i++) {
                well = nextLine() && accept(';');
                sea.lines++;
            }
            return well;
        }

        private int kind() {
            return next < tokens.kind.length ? tokens.kind[next] : END;
        }

        private boolean blame(int which) {
            fault = which;
            place = next < tokens.place.length ? tokens.place[next] : NONE;
            return false;
        }

        private boolean refuse() {
            return blame(kind() == NO_TOKEN ? NO_TOKEN_FAULT : PLACE_FAULT);
        }

        private boolean accept(int which) {
            if (kind() != which) {
                return refuse();
            }
            next++;
            return true;
        }

        /** NONE with a fault. */
        private int amount(int least, int most) {
            int value = kind() - NUMBER;
            if (value < 0) {
                refuse();
                return NONE;
            }
            if (value < least || value > most) {
                blame(BOUNDS_FAULT);
                return NONE;
            }
            next++;
            return value;
        }

        private boolean firstLine() {
            if (!accept(W_SEA)) {
                return false;
            }
            int beaches = amount(1, MOST_BEACHES);
            if (beaches == NONE || !accept(';')) {
                return false;
            }
            sea.beaches = beaches;
            sea.lines = 1;
            return true;
        }

        private boolean nextLine() {
            switch (kind()) {
                case W_CURRENT:
                    return currentLine();
                case W_PERSON:
                    return personLine();
                case W_SHELL:
                    return shellLine();
                case W_SOUNDS:
                    return lawLine(SOUNDS) && sum(0);
                case W_OPEN:
                    return lawLine(OPEN) && truth(0);
                case W_LISTENS:
                    return lawLine(LISTENS) && truth(0);
                case W_GALE:
                    next++;
                    sea.firstGale = amount(0, LONGEST_GALE);
                    return sea.firstGale != NONE;
                case W_HOUR:
                    next++;
                    sea.firstHour = amount(0, LAST_FIRST_HOUR);
                    return sea.firstHour != NONE;
                default:
                    return refuse();
            }
        }

        private boolean currentLine() {
            int k = sea.currents;
            if (k >= MOST_CURRENTS) {
                return blame(MANY_FAULT);
            }
            next++;
            sea.from[k] = amount(0, sea.beaches - 1);
            if (sea.from[k] == NONE) {
                return false;
            }
            if (kind() == NUMBER + sea.from[k]) {
                return blame(BOUNDS_FAULT);
            }
            sea.to[k] = amount(0, sea.beaches - 1);
            if (sea.to[k] == NONE || !accept(W_TAKES)) {
                return false;
            }
            sea.takes[k] = amount(1, LONGEST_WAY);
            sea.currents++;
            return sea.takes[k] != NONE;
        }

        private boolean personLine() {
            int p = sea.people;
            if (p >= MOST_PEOPLE) {
                return blame(MANY_FAULT);
            }
            next++;
            sea.home[p] = NONE;
            for (int i = 0; i < MOST_BYTES && (kind() == W_AT || kind() == W_DEAF); i++) {
                boolean at = kind() == W_AT;
                next++;
                if (at) {
                    sea.home[p] = amount(0, sea.beaches - 1);
                    if (sea.home[p] == NONE) {
                        return false;
                    }
                } else {
                    sea.deaf |= 1 << p;
                }
            }
            sea.people++;
            return true;
        }

        private boolean shellLine() {
            int k = sea.shells;
            if (k >= MOST_SHELLS) {
                return blame(MANY_FAULT);
            }
            next++;
            sea.firstHolder[k] = NONE;
            sea.origin[k] = amount(0, sea.beaches - 1);
            if (sea.origin[k] == NONE) {
                return false;
            }
            if (kind() == W_BY) {
                next++;
                sea.firstHolder[k] = amount(0, sea.people - 1);
                if (sea.firstHolder[k] == NONE) {
                    return false;
                }
            }
            sea.shells++;
            return true;
        }

        private boolean lawLine(int which) {
            next++;
            law = which;
            sea.laws.begin(which);
            return accept(':');
        }

        private boolean truth(int depth) {
            if (!both(depth)) {
                return false;
            }
            for (int i = 0; i < MOST_BYTES && kind() == W_OR; i++) {
                next++;
                if (!both(depth)) {
                    return false;
                }
                sea.laws.add(law, OR);
            }
            return true;
        }

        private boolean both(int depth) {
            if (!unit(depth)) {
                return false;
            }
            for (int i = 0; i < MOST_BYTES && kind() == W_AND; i++) {
                next++;
                if (!unit(depth)) {
                    return false;
                }
                sea.laws.add(law, AND);
            }
            return true;
        }

        private boolean unit(int depth) {
            if (kind() == W_NOT) {
                if (!goesDeeper(depth) || !unit(depth + 1)) {
                    return false;
                }
                sea.laws.add(law, NOT);
                return true;
            }
            if (kind() == '[') {
                return goesDeeper(depth) && truth(depth + 1) && accept(']');
            }
            if (!sum(depth)) {
                return false;
            }
            int op = comparing(kind());
            if (op == NONE) {
                return refuse();
            }
            next++;
            if (!sum(depth)) {
                return false;
            }
            sea.laws.add(law, op);
            return true;
        }

        private boolean sum(int depth) {
            if (!term(depth)) {
                return false;
            }
            for (int i = 0; i < MOST_BYTES && (kind() == '+' || kind() == '-'); i++) {
                int op = kind() == '+' ? PLUS : MINUS;
                next++;
                if (!term(depth)) {
                    return false;
                }
                sea.laws.add(law, op);
            }
            return true;
        }

        private boolean term(int depth) {
            if (!atom(depth)) {
                return false;
            }
            for (int i = 0; i < MOST_BYTES && kind() == '*'; i++) {
                next++;
                if (!atom(depth)) {
                    return false;
                }
                sea.laws.add(law, TIMES);
            }
            return true;
        }

        private boolean atom(int depth) {
            if (kind() == '(') {
                return goesDeeper(depth) && sum(depth + 1) && accept(')');
            }
            int operand = kind() >= NUMBER ? kind() - NUMBER : givenBy(kind());
            if (operand == NONE) {
                return refuse();
            }
            next++;
            sea.laws.add(law, operand);
            return true;
        }

        /** Behind one more of not [ ( that encloses what follows. */
        private boolean goesDeeper(int depth) {
            if (depth >= MOST_NESTED) {
                return blame(MANY_FAULT);
            }
            next++;
            return true;
        }

        private static int comparing(int kind) {
            switch (kind) {
                case '=':
                    return EQUAL;
                case '<':
                    return LESS;
                case '>':
                    return MORE;
                default:
                    return NONE;
            }
        }

        /** NONE for a word that the law doesn't know. */
        private int givenBy(int kind) {
            switch (kind) {
                case W_HOUR:
                    return GIVEN_HOUR;
                case W_GALE:
                    return GIVEN_GALE;
                case W_BEACH:
                    return law == SOUNDS ? GIVEN_FIRST : NONE;
                case W_FROM:
                    return law == OPEN ? GIVEN_FIRST : NONE;
                case W_TO:
                    return law == OPEN ? GIVEN_SECOND : NONE;
                case W_TAKES:
                    return law == OPEN ? GIVEN_THIRD : NONE;
                case W_WHO:
                    return law == LISTENS ? GIVEN_FIRST : NONE;
                case W_HOME:
                    return law == LISTENS ? GIVEN_SECOND : NONE;
                case W_WORDS:
                    return law == LISTENS ? GIVEN_THIRD : NONE;
                default:
                    return NONE;
            }
        }
    }

    /** What can be UNDONE. */
    private static final class State {
        int hour;
        /** HOURS it blows still. */
        int gale;
        int x;
        int words;
        final int[] holder = new int[MOST_SHELLS];
        /** Of each WORD, as bits: BEACHES where it is, currents it went by, those it is under way by. */
        final int[] at = new int[MOST_WORDS];
        final int[] gone = new int[MOST_WORDS];
        final int[] under = new int[MOST_WORDS];
        /** HOURS till a WORD comes in by a current. */
        final int[] left = new int[MOST_WORDS * MOST_CURRENTS];
        /** WORDS that each person HEARD, as bits. */
        final int[] heardBy = new int[MOST_PEOPLE];

        void begin(Sea sea) {
            hour = sea.firstHour;
            gale = sea.firstGale;
            x = 0;
            words = 0;
            System.arraycopy(sea.firstHolder, 0, holder, 0, MOST_SHELLS);
            Arrays.fill(heardBy, 0);
        }

        void copyFrom(State other) {
            hour = other.hour;
            gale = other.gale;
            x = other.x;
            words = other.words;
            System.arraycopy(other.holder, 0, holder, 0, MOST_SHELLS);
            System.arraycopy(other.at, 0, at, 0, MOST_WORDS);
            System.arraycopy(other.gone, 0, gone, 0, MOST_WORDS);
            System.arraycopy(other.under, 0, under, 0, MOST_WORDS);
            System.arraycopy(other.left, 0, left, 0, words * MOST_CURRENTS);
            System.arraycopy(other.heardBy, 0, heardBy, 0, MOST_PEOPLE);
        }

        /** How many times a person HEARD a WORD for the first time in it. */
        int passHour(Sea sea, Rules rules) {
            goOut(sea, rules.openCurrents(hour, gale > 0));
            hour++;
            gale = Math.max(0, gale - 1);
            comeIn(sea);
            int first = 0;
            for (int p = 0; p < sea.people; p++) {
                int before = Integer.bitCount(heardBy[p]);
                if (before < words && (rules.listeners(hour, gale > 0, before) >> p & 1) == 1) {
                    heardBy[p] |= wordsAt(audible(sea, p));
                    first += Integer.bitCount(heardBy[p]) - before;
                }
            }
            return first;
        }

        private void goOut(Sea sea, int open) {
            for (int w = 0; w < words; w++) {
                int ungone = open & ~gone[w];
                for (int k = 0; k < sea.currents && ungone != 0; k++) {
                    if ((ungone >> k & at[w] >> sea.from[k] & 1) == 1) {
                        gone[w] |= 1 << k;
                        under[w] |= 1 << k;
                        left[w * MOST_CURRENTS + k] = sea.takes[k];
                    }
                }
            }
        }

        private void comeIn(Sea sea) {
            for (int w = 0; w < words; w++) {
                for (int k = 0; k < sea.currents && under[w] != 0; k++) {
                    if ((under[w] >> k & 1) == 1) {
                        left[w * MOST_CURRENTS + k]--;
                        if (left[w * MOST_CURRENTS + k] == 0) {
                            under[w] ^= 1 << k;
                            at[w] |= 1 << sea.to[k];
                        }
                    }
                }
            }
        }

        private int wordsAt(int beaches) {
            int set = 0;
            for (int w = 0; w < words; w++) {
                if ((at[w] & beaches) != 0) {
                    set |= 1 << w;
                }
            }
            return set;
        }

        /** BEACHES that a person could hear, by where it lives or by a shell, as bits. */
        int audible(Sea sea, int p) {
            int set = sea.home[p] == NONE ? 0 : 1 << sea.home[p];
            for (int k = 0; k < sea.shells; k++) {
                if (holder[k] == p) {
                    set |= 1 << sea.origin[k];
                }
            }
            return set;
        }

        /** Why not, 0 if it is done. */
        int attempt(long number, Sea sea, Rules rules) {
            if (number == NONE) {
                passHour(sea, rules);
                return 0;
            }
            if (number < 0 || number >= GALE_DEEDS + DEEDS_OF_A_KIND) {
                return NO_SUCH_DEED;
            }
            int v = (int) number;
            if (v < GIVE_DEEDS) {
                return whisperAt(v, sea);
            }
            if (v < NO_DEEDS) {
                return giveTo((v - GIVE_DEEDS) / DEEDS_OF_A_KIND, v % DEEDS_OF_A_KIND, sea);
            }
            if (v >= LAY_DEEDS && v < LAY_DEEDS + DEEDS_OF_A_KIND) {
                return layDown(v - LAY_DEEDS, sea);
            }
            if (v < GALE_DEEDS) {
                return NO_SUCH_DEED;
            }
            gale = v - GALE_DEEDS;
            return 0;
        }

        private int whisperAt(int b, Sea sea) {
            if (b >= sea.beaches) {
                return NO_SUCH_DEED;
            }
            if (words >= MOST_WORDS) {
                return NOT_THIS_DEED;
            }
            at[words] = 1 << b;
            gone[words] = 0;
            under[words] = 0;
            words++;
            return 0;
        }

        private int giveTo(int k, int p, Sea sea) {
            if (k >= sea.shells || p >= sea.people) {
                return NO_SUCH_DEED;
            }
            holder[k] = p;
            return 0;
        }

        private int layDown(int k, Sea sea) {
            if (k >= sea.shells) {
                return NO_SUCH_DEED;
            }
            if (holder[k] == NONE) {
                return NOT_THIS_DEED;
            }
            holder[k] = NONE;
            return 0;
        }

        /** How many were done, till one couldn't be. */
        int attemptAll(Tray deeds, Sea sea, Rules rules) {
            for (int i = 0; i < deeds.size; i++) {
                if (attempt(deeds.values[i], sea, rules) != 0) {
                    return i;
                }
            }
            return deeds.size;
        }

        /** Whether it could be. */
        boolean drawDeed(Sea sea, Rules rules) {
            switch (draw() % 5) {
                case 2:
                    return attempt(draw() % Math.max(1, sea.beaches), sea, rules) == 0;
                case 3:
                    if (sea.shells == 0 || sea.people == 0) {
                        return false;
                    }
                    int k = draw() % sea.shells;
                    int p = draw() % sea.people;
                    return attempt(GIVE_DEEDS + k * DEEDS_OF_A_KIND + p, sea, rules) == 0;
                case 4:
                    return attempt(GALE_DEEDS + draw() % 6, sea, rules) == 0;
                default:
                    return attempt(NONE, sea, rules) == 0;
            }
        }

        private int draw() {
            x = 1103515245 * x + 12345;
            return x >>> 16;
        }

        int shellsOf(Sea sea, int p) {
            int set = 0;
            for (int k = 0; k < sea.shells; k++) {
                if (holder[k] == p) {
                    set |= 1 << k;
                }
            }
            return set;
        }

        int hearersOf(int w) {
            int set = 0;
            for (int p = 0; p < MOST_PEOPLE; p++) {
                set |= (heardBy[p] >> w & 1) << p;
            }
            return set;
        }

        int heardAll(Sea sea) {
            int set = 0;
            for (int p = 0; p < sea.people; p++) {
                if (heardBy[p] == (1 << words) - 1) {
                    set |= 1 << p;
                }
            }
            return set;
        }

        /** People whom a person HEARS, as bits. */
        int hearable(Sea sea, int p) {
            if ((sea.deaf >> p & 1) == 1) {
                return 0;
            }
            int beaches = audible(sea, p);
            int set = 0;
            for (int q = 0; q < sea.people; q++) {
                if (q != p && sea.home[q] != NONE && (beaches >> sea.home[q] & 1) == 1) {
                    set |= 1 << q;
                }
            }
            return set;
        }

        int mutualTwos(Sea sea) {
            int twos = 0;
            for (int p = 0; p < sea.people; p++) {
                int others = hearable(sea, p);
                for (int q = 0; q < p; q++) {
                    if ((others >> q & hearable(sea, q) >> p & 1) == 1) {
                        twos++;
                    }
                }
            }
            return twos;
        }
    }

    /** The states that can be gone back to, in a ring. */
    private static final class History {
        private final State[] kept = new State[MOST_UNDONE];
        private int next;
        int size;

        History() {
            for (int i = 0; i < MOST_UNDONE; i++) {
                kept[i] = new State();
            }
        }

        void forget() {
            size = 0;
        }

        void keep(State state) {
            kept[next].copyFrom(state);
            next = (next + 1) % MOST_UNDONE;
            size = Math.min(MOST_UNDONE, size + 1);
        }

        void takeBack(State state, int n) {
            next = Math.floorMod(next - n, MOST_UNDONE);
            state.copyFrom(kept[next]);
            size -= n;
        }
    }

    /** CALLS: where a WORD comes in which HOUR, and who HEARS it, HOURS being told from now on. */
    private static final class Calls {
        private final Sea sea;
        private final Rules rules;
        private final State now;
        /** Of a current, the first HOUR from one on in which it is OPEN; of a person, LISTENS. */
        private final int[] nextOpen = new int[MOST_CURRENTS * SPAN];
        private final int[] nextListening = new int[MOST_PEOPLE * SPAN];
        final int[] arrival = new int[MOST_BEACHES];
        private int last;
        private int whispered;

        Calls(Sea sea, Rules rules, State now) {
            this.sea = sea;
            this.rules = rules;
            this.now = now;
        }

        /** Looks at the HOURS up to this one, which CALLS then are told for. */
        void lookAhead(int hours) {
            last = Math.max(0, Math.min(SPAN - 1, hours));
            for (int n = last; n >= 0; n--) {
                int open = rules.openCurrents(now.hour + n, now.gale > n);
                int listening = rules.listeners(now.hour + n, now.gale > n, 0);
                for (int k = 0; k < sea.currents; k++) {
                    fillIn(nextOpen, k * SPAN, n, (open >> k & 1) == 1);
                }
                for (int p = 0; p < sea.people; p++) {
                    fillIn(nextListening, p * SPAN, n, (listening >> p & 1) == 1);
                }
            }
        }

        private void fillIn(int[] first, int row, int n, boolean so) {
            if (so) {
                first[row + n] = n;
            } else {
                first[row + n] = n < last ? first[row + n + 1] : NEVER;
            }
        }

        /** A WORD WHISPERED at a BEACH in w HOURS: it leaves by each current as soon as it can. */
        void send(int b, int w, int closed) {
            whispered = w;
            Arrays.fill(arrival, NEVER);
            arrival[b] = w;
            boolean sooner = true;
            for (int i = 0; i < MOST_BEACHES && sooner; i++) {
                sooner = false;
                for (int k = 0; k < sea.currents; k++) {
                    int hour = (closed >> k & 1) == 1 ? NEVER : arrivalBy(k);
                    if (hour < arrival[sea.to[k]]) {
                        arrival[sea.to[k]] = hour;
                        sooner = true;
                    }
                }
            }
        }

        private int arrivalBy(int k) {
            int there = arrival[sea.from[k]];
            return there > last ? NEVER : nextOpen[k * SPAN + there] + sea.takes[k];
        }

        int beachesBy(int hour) {
            int set = 0;
            for (int b = 0; b < sea.beaches; b++) {
                if (arrival[b] <= hour) {
                    set |= 1 << b;
                }
            }
            return set;
        }

        int hourHeard(int p) {
            int audible = now.audible(sea, p);
            int hour = NEVER;
            for (int b = 0; b < sea.beaches; b++) {
                if ((audible >> b & 1) == 1) {
                    hour = Math.min(hour, arrival[b]);
                }
            }
            return hourHeardFrom(hour, p);
        }

        /** The HOUR in which a person HEARS what comes to it in this one. */
        private int hourHeardFrom(int hour, int p) {
            int first = Math.max(hour, whispered + 1);
            return first > last ? NEVER : nextListening[p * SPAN + first];
        }

        int hearersBy(int hour) {
            int set = 0;
            for (int p = 0; p < sea.people; p++) {
                if (hourHeard(p) <= hour) {
                    set |= 1 << p;
                }
            }
            return set;
        }

        /** As bits; NONE if no set does. */
        int fewestToShut(int b, int p, int n) {
            int all = (1 << sea.currents) - 1;
            send(b, 0, all);
            if (hourHeard(p) <= n) {
                return NONE;
            }
            int best = all;
            for (int set = 0; set < all; set++) {
                if (Integer.bitCount(set) < Integer.bitCount(best)) {
                    send(b, 0, set);
                    best = hourHeard(p) <= n ? best : set;
                }
            }
            return best;
        }

        /** As bits: all by which the person HEARS the WORD; NONE if it HEARS it where it lives. */
        int shellsToTake(int p, int n) {
            if (sea.home[p] != NONE && hourHeardFrom(arrival[sea.home[p]], p) <= n) {
                return NONE;
            }
            int set = 0;
            for (int k = 0; k < sea.shells; k++) {
                if (now.holder[k] == p && hourHeardFrom(arrival[sea.origin[k]], p) <= n) {
                    set |= 1 << k;
                }
            }
            return set;
        }
    }

    /** Shells two by two, so that the sum of their costs is least. */
    private static final class Pairing {
        private final int[] cost = new int[MOST_SHELLS * MOST_SHELLS];
        private final int[] partner = new int[MOST_SHELLS];
        final int[] best = new int[MOST_SHELLS];
        int leastSum;
        private int shells;

        void setCost(int i, int j, int value) {
            cost[i * MOST_SHELLS + j] = value;
        }

        void solve(int howMany) {
            shells = howMany;
            leastSum = NEVER;
            pairFrom(0, (1 << howMany) - 1, 0, howMany % 2 == 1);
        }

        /** Tries partners in their order, so that of like sums the first one found stays. */
        private void pairFrom(int k, int free, int sum, boolean oneLeftOver) {
            if (sum >= leastSum) {
                return;
            }
            if (k >= shells) {
                leastSum = sum;
                System.arraycopy(partner, 0, best, 0, MOST_SHELLS);
                return;
            }
            if ((free >> k & 1) == 0) {
                pairFrom(k + 1, free, sum, oneLeftOver);
                return;
            }
            for (int j = k + 1; j < shells; j++) {
                if ((free >> j & 1) == 1) {
                    partner[k] = j;
                    partner[j] = k;
                    pairFrom(k + 1, free & ~(1 << j), sum + cost[k * MOST_SHELLS + j], oneLeftOver);
                }
            }
            if (oneLeftOver) {
                partner[k] = NONE;
                pairFrom(k + 1, free, sum, false);
            }
        }
    }

    /** Numbers of one sort. */
    private static final class Tray {
        private static final int MISSING = -1;
        final long[] values = new long[MOST_NUMBERS];
        int size = MISSING;
        private int sort;

        boolean isMissing() {
            return size == MISSING;
        }

        void begin(int ofSort, int n) {
            sort = ofSort;
            size = n;
            Arrays.fill(values, 0L);
        }

        long put(int i, long v) {
            values[i] = cut(v);
            return values[i];
        }

        private long cut(long v) {
            switch (sort) {
                case 0:
                    return (byte) v;
                case 1:
                    return (short) v;
                case 2:
                    return (int) v;
                default:
                    return v;
            }
        }
    }

    /** A sea and its state at one time. */
    private static final class Image {
        final Sea sea = new Sea();
        final State state = new State();
    }
}
