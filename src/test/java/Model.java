import java.util.ArrayDeque;
import java.util.ArrayList;
import java.util.Arrays;
import java.util.List;

/** The document written a second time, as plainly as can be and with no thought of speed or room. */
final class Model {
    static final int NONE = -1;

    // ---- what a text tells

    interface Law {
        int of(int hour, int gale, int a, int b, int c);
    }

    static final class Fault extends RuntimeException {
        final int kind;
        final int place;

        Fault(int kind, int place) {
            this.kind = kind;
            this.place = place;
        }
    }

    static final class Sea {
        int beaches = 1;
        int lines = 0;
        int hour = 0;
        int gale = 0;
        List<int[]> currents = new ArrayList<>();
        List<int[]> people = new ArrayList<>();
        List<int[]> shells = new ArrayList<>();
        Law sounds = (hour, gale, beach, none, nothing) -> 10 * beach + gale;
        Law open = (hour, gale, from, to, takes) -> 1 - gale;
        Law listens = (hour, gale, who, home, words) -> 1;
    }

    /** Reads sign by sign, without tokens made ahead. */
    static final class Parser {
        final String text;
        int at = 0;
        String[] names = {};
        Sea sea = new Sea();

        Parser(String text) {
            this.text = text;
        }

        void blanks() {
            while (at < text.length() && (text.charAt(at) == ' ' || text.charAt(at) == '\n')) {
                at++;
            }
        }

        /** The next token; "" at the end. */
        String peek() {
            blanks();
            if (at == text.length()) {
                return "";
            }
            char c = text.charAt(at);
            int end = at + 1;
            if (c >= 'a' && c <= 'z') {
                while (end < text.length() && text.charAt(end) >= 'a' && text.charAt(end) <= 'z') {
                    end++;
                }
            } else if (c >= '0' && c <= '9') {
                while (end < text.length() && text.charAt(end) >= '0' && text.charAt(end) <= '9') {
                    end++;
                }
                if (end - at > 3) {
                    throw new Fault(1, at);
                }
            } else if (";:+-*()[]=<>".indexOf(c) < 0) {
                throw new Fault(1, at);
            }
            return text.substring(at, end);
        }

        boolean got(String token) {
            if (peek().equals(token)) {
                at += token.length();
                return true;
            }
            return false;
        }

        void need(String token) {
            if (!got(token)) {
                throw new Fault(2, at);
            }
        }

        boolean isNumber(String token) {
            return !token.isEmpty() && Character.isDigit(token.charAt(0));
        }

        int number(int least, int most, int not) {
            String token = peek();
            if (!isNumber(token)) {
                throw new Fault(2, at);
            }
            int n = Integer.parseInt(token);
            if (n < least || n > most || n == not) {
                throw new Fault(3, at);
            }
            at += token.length();
            return n;
        }

        Sea parse() {
            need("sea");
            sea.beaches = number(1, 6, -1);
            need(";");
            sea.lines = 1;
            while (!peek().isEmpty()) {
                line();
                need(";");
                sea.lines++;
            }
            return sea;
        }

        void room(List<int[]> list, int most, String token) {
            if (list.size() == most) {
                throw new Fault(4, at - token.length());
            }
        }

        void line() {
            if (got("current")) {
                room(sea.currents, 10, "current");
                int from = number(0, sea.beaches - 1, -1);
                int to = number(0, sea.beaches - 1, from);
                need("takes");
                sea.currents.add(new int[] {from, to, number(1, 9, -1)});
            } else if (got("person")) {
                room(sea.people, 6, "person");
                int[] person = {NONE, 0};
                while (!peek().equals(";")) {
                    if (got("at")) {
                        person[0] = number(0, sea.beaches - 1, -1);
                    } else {
                        need("deaf");
                        person[1] = 1;
                    }
                }
                sea.people.add(person);
            } else if (got("shell")) {
                room(sea.shells, 8, "shell");
                int[] shell = {number(0, sea.beaches - 1, -1), NONE};
                if (got("by")) {
                    shell[1] = number(0, sea.people.size() - 1, -1);
                }
                sea.shells.add(shell);
            } else if (got("sounds")) {
                need(":");
                names = new String[] {"beach"};
                sea.sounds = sum(0);
            } else if (got("open")) {
                need(":");
                names = new String[] {"from", "to", "takes"};
                sea.open = truth(0);
            } else if (got("listens")) {
                need(":");
                names = new String[] {"who", "home", "words"};
                sea.listens = truth(0);
            } else if (got("gale")) {
                sea.gale = number(0, 99, -1);
            } else {
                need("hour");
                sea.hour = number(0, 999, -1);
            }
        }

        void deeper(int depth, String token) {
            if (depth == 6) {
                throw new Fault(4, at - token.length());
            }
        }

        Law truth(int depth) {
            Law left = both(depth);
            while (got("or")) {
                Law first = left;
                Law second = both(depth);
                left = (h, g, a, b, c) -> first.of(h, g, a, b, c) == 1 || second.of(h, g, a, b, c) == 1 ? 1 : 0;
            }
            return left;
        }

        Law both(int depth) {
            Law left = unit(depth);
            while (got("and")) {
                Law first = left;
                Law second = unit(depth);
                left = (h, g, a, b, c) -> first.of(h, g, a, b, c) == 1 && second.of(h, g, a, b, c) == 1 ? 1 : 0;
            }
            return left;
        }

        Law unit(int depth) {
            if (got("not")) {
                deeper(depth, "not");
                Law inner = unit(depth + 1);
                return (h, g, a, b, c) -> inner.of(h, g, a, b, c) == 1 ? 0 : 1;
            }
            if (got("[")) {
                deeper(depth, "[");
                Law inner = truth(depth + 1);
                need("]");
                return inner;
            }
            Law left = sum(depth);
            String sign = peek();
            if (!sign.equals("=") && !sign.equals("<") && !sign.equals(">")) {
                throw new Fault(2, at);
            }
            at++;
            Law right = sum(depth);
            return (h, g, a, b, c) -> {
                int order = Integer.compare(left.of(h, g, a, b, c), right.of(h, g, a, b, c));
                return order == (sign.equals("=") ? 0 : sign.equals("<") ? -1 : 1) ? 1 : 0;
            };
        }

        static int kept(long value) {
            return (int) Math.max(-1000000, Math.min(1000000, value));
        }

        Law sum(int depth) {
            Law left = term(depth);
            while (true) {
                Law first = left;
                if (got("+")) {
                    Law second = term(depth);
                    left = (h, g, a, b, c) -> kept((long) first.of(h, g, a, b, c) + second.of(h, g, a, b, c));
                } else if (got("-")) {
                    Law second = term(depth);
                    left = (h, g, a, b, c) -> kept((long) first.of(h, g, a, b, c) - second.of(h, g, a, b, c));
                } else {
                    return left;
                }
            }
        }

        Law term(int depth) {
            Law left = atom(depth);
            while (got("*")) {
                Law first = left;
                Law second = atom(depth);
                left = (h, g, a, b, c) -> kept((long) first.of(h, g, a, b, c) * second.of(h, g, a, b, c));
            }
            return left;
        }

        Law atom(int depth) {
            if (isNumber(peek())) {
                int n = number(0, 999, -1);
                return (h, g, a, b, c) -> n;
            }
            if (got("(")) {
                deeper(depth, "(");
                Law inner = sum(depth + 1);
                need(")");
                return inner;
            }
            if (got("hour")) {
                return (h, g, a, b, c) -> h;
            }
            if (got("gale")) {
                return (h, g, a, b, c) -> g;
            }
            for (int i = 0; i < names.length; i++) {
                if (got(names[i])) {
                    int which = i;
                    return (h, g, a, b, c) -> which == 0 ? a : which == 1 ? b : c;
                }
            }
            throw new Fault(2, at);
        }
    }

    // ---- what goes on

    /** A word's way by one current: the hour in which it comes in. */
    static final class Word {
        boolean[] at = new boolean[6];
        int[] due = new int[10];
        boolean[] heard = new boolean[6];

        Word(int beach) {
            at[beach] = true;
            Arrays.fill(due, NONE);
        }

        Word copy() {
            Word word = new Word(0);
            word.at = at.clone();
            word.due = due.clone();
            word.heard = heard.clone();
            return word;
        }
    }

    static final class World {
        Sea sea;
        int hour;
        int gale;
        int x = 0;
        int[] holder;
        List<Word> words = new ArrayList<>();

        World(Sea sea) {
            this.sea = sea;
            hour = sea.hour;
            gale = sea.gale;
            holder = sea.shells.stream().mapToInt(s -> s[1]).toArray();
        }

        World copy() {
            World world = new World(sea);
            world.hour = hour;
            world.gale = gale;
            world.x = x;
            world.holder = holder.clone();
            for (Word word : words) {
                world.words.add(word.copy());
            }
            return world;
        }

        int blows() {
            return gale > 0 ? 1 : 0;
        }

        int sound(int b) {
            return Math.max(0, Math.min(99, sea.sounds.of(hour % 24, blows(), b, 0, 0)));
        }

        boolean isOpen(int k) {
            int[] c = sea.currents.get(k);
            return sea.open.of(hour % 24, blows(), c[0], c[1], c[2]) == 1;
        }

        boolean listens(int p) {
            int[] person = sea.people.get(p);
            int heard = 0;
            for (Word word : words) {
                heard += word.heard[p] ? 1 : 0;
            }
            return person[1] == 0
                && sea.listens.of(hour % 24, blows(), p, person[0] == NONE ? 6 : person[0], heard) == 1;
        }

        /** Whether a person holds a shell from a beach, or lives there. */
        boolean canHear(int p, int beach) {
            boolean can = sea.people.get(p)[0] == beach;
            for (int k = 0; k < holder.length; k++) {
                can |= holder[k] == p && sea.shells.get(k)[0] == beach;
            }
            return can;
        }

        int hour(int shut) {
            for (Word word : words) {
                for (int k = 0; k < sea.currents.size(); k++) {
                    int[] c = sea.currents.get(k);
                    if ((shut >> k & 1) == 0 && word.at[c[0]] && word.due[k] == NONE && isOpen(k)) {
                        word.due[k] = hour + c[2];
                    }
                }
            }
            hour++;
            gale = gale > 0 ? gale - 1 : 0;
            for (Word word : words) {
                for (int k = 0; k < sea.currents.size(); k++) {
                    if (word.due[k] == hour) {
                        word.at[sea.currents.get(k)[1]] = true;
                    }
                }
            }
            int times = 0;
            for (int p = 0; p < sea.people.size(); p++) {
                if (listens(p)) {
                    for (Word word : words) {
                        for (int b = 0; b < sea.beaches; b++) {
                            if (word.at[b] && canHear(p, b) && !word.heard[p]) {
                                word.heard[p] = true;
                                times++;
                            }
                        }
                    }
                }
            }
            return times;
        }

        World after(int n) {
            World world = copy();
            for (int i = 0; i < n; i++) {
                world.hour(0);
            }
            return world;
        }

        /** Why not. */
        int deed(long v) {
            if (v == NONE) {
                hour(0);
            } else if (v >= 0 && v <= 99) {
                if (v >= sea.beaches) {
                    return 1;
                }
                if (words.size() == 8) {
                    return 2;
                }
                words.add(new Word((int) v));
            } else if (v >= 100 && v <= 899) {
                int k = (int) (v - 100) / 100;
                int p = (int) v % 100;
                if (k >= holder.length || p >= sea.people.size()) {
                    return 1;
                }
                holder[k] = p;
            } else if (v >= 1000 && v <= 1099) {
                int k = (int) v - 1000;
                if (k >= holder.length) {
                    return 1;
                }
                if (holder[k] == NONE) {
                    return 2;
                }
                holder[k] = NONE;
            } else if (v >= 2000 && v <= 2099) {
                gale = (int) v - 2000;
            } else {
                return 1;
            }
            return 0;
        }

        int draw() {
            x = x * 1103515245 + 12345;
            return x >>> 16;
        }

        /** A call: the world n hours behind the whispering. */
        World call(int b, int w, int n, int shut, int taken) {
            World world = copy();
            world.words.clear();
            for (int i = 0; i < w; i++) {
                world.hour(shut);
            }
            world.words.add(new Word(b));
            for (int k = 0; k < holder.length; k++) {
                if ((taken >> k & 1) == 1) {
                    world.holder[k] = NONE;
                }
            }
            for (int i = 0; i < n; i++) {
                world.hour(shut);
            }
            return world;
        }

        int hearers(int b, int w, int n, int shut, int taken) {
            return bits(call(b, w, n, shut, taken).words.get(0).heard);
        }

        boolean hears(int p, int q) {
            int there = sea.people.get(q)[0];
            return p != q && sea.people.get(p)[1] == 0 && there != NONE && canHear(p, there);
        }

        int mutual() {
            int twos = 0;
            for (int p = 0; p < sea.people.size(); p++) {
                for (int q = p + 1; q < sea.people.size(); q++) {
                    twos += hears(p, q) && hears(q, p) ? 1 : 0;
                }
            }
            return twos;
        }
    }

    static int bits(boolean[] set) {
        int bits = 0;
        for (int i = 0; i < set.length; i++) {
            bits |= set[i] ? 1 << i : 0;
        }
        return bits;
    }

    // ---- the object

    String tape = "";
    int fault = 0;
    int place = NONE;
    World world = new World(new Sea());
    ArrayDeque<World> past = new ArrayDeque<>();
    long[][] trays = new long[4][];
    int[] sorts = new int[4];
    World[] images = new World[2];

    void remember(World before) {
        past.addLast(before);
        if (past.size() > 10) {
            past.removeFirst();
        }
    }

    boolean beach(int b) {
        return b >= 0 && b < world.sea.beaches;
    }

    boolean human(int p) {
        return p >= 0 && p < world.sea.people.size();
    }

    boolean conch(int k) {
        return k >= 0 && k < world.holder.length;
    }

    boolean said(int w) {
        return w >= 0 && w < world.words.size();
    }

    boolean tray(int t) {
        return t >= 0 && t < 4;
    }

    boolean in(int n, int least, int most) {
        return least <= n && n <= most;
    }

    int feed(int a, int b, int c, int d, int e) {
        if (tape.length() + 20 > 900) {
            return -5;
        }
        for (int four : new int[] {a, b, c, d, e}) {
            for (int i = 3; i >= 0; i--) {
                tape += (char) (four >>> (8 * i) & 255);
            }
        }
        return tape.length();
    }

    int sea(int n) {
        if (n < 0 || n > tape.length()) {
            return -3;
        }
        String text = tape.substring(0, n);
        tape = "";
        try {
            world = new World(new Parser(text).parse());
            past.clear();
            fault = 0;
            place = NONE;
            return world.sea.lines;
        } catch (Fault f) {
            fault = f.kind;
            place = f.place;
            return -30 - fault;
        }
    }

    int fault(int what) {
        return what == 0 ? fault : what == 1 ? place : NONE;
    }

    int current(int k, int what) {
        if (k < 0 || k >= world.sea.currents.size() || !in(what, 0, 3)) {
            return -2;
        }
        return what == 3 ? (world.isOpen(k) ? 1 : 0) : world.sea.currents.get(k)[what];
    }

    int person(int p, int what) {
        if (!human(p) || !in(what, 0, 4)) {
            return -2;
        }
        if (what == 4) {
            return world.listens(p) ? 1 : 0;
        }
        if (what < 2) {
            return world.sea.people.get(p)[what];
        }
        int set = 0;
        if (what == 2) {
            for (int w = 0; w < world.words.size(); w++) {
                set |= world.words.get(w).heard[p] ? 1 << w : 0;
            }
        } else {
            for (int k = 0; k < world.holder.length; k++) {
                set |= world.holder[k] == p ? 1 << k : 0;
            }
        }
        return set;
    }

    int shell(int k, int what) {
        if (!conch(k) || !in(what, 0, 1)) {
            return -2;
        }
        return what == 0 ? world.sea.shells.get(k)[0] : world.holder[k];
    }

    int word(int w, int what) {
        if (!said(w) || !in(what, 0, 2)) {
            return -2;
        }
        Word word = world.words.get(w);
        if (what == 1) {
            int under = 0;
            for (int due : word.due) {
                under += due > world.hour ? 1 : 0;
            }
            return under;
        }
        return bits(what == 0 ? word.at : word.heard);
    }

    int sound(int b, int n) {
        if (!beach(b)) {
            return -2;
        }
        if (!in(n, 0, 999)) {
            return -3;
        }
        return soundIn(b, n);
    }

    int soundIn(int b, int n) {
        World then = new World(world.sea);
        then.hour = world.hour + n;
        then.gale = Math.max(0, world.gale - n);
        return then.sound(b);
    }

    int seed(int n) {
        remember(world.copy());
        int was = world.x;
        world.x = n;
        return was;
    }

    int whisper(int b) {
        if (!beach(b)) {
            return -11;
        }
        if (world.words.size() == 8) {
            return -12;
        }
        remember(world.copy());
        world.words.add(new Word(b));
        return world.words.size() - 1;
    }

    int give(int k, int p) {
        if (!conch(k) || !human(p)) {
            return -11;
        }
        remember(world.copy());
        int was = world.holder[k];
        world.holder[k] = p;
        return was;
    }

    int lay(int k) {
        if (!conch(k)) {
            return -11;
        }
        if (world.holder[k] == NONE) {
            return -12;
        }
        remember(world.copy());
        int was = world.holder[k];
        world.holder[k] = NONE;
        return was;
    }

    int gale(int n) {
        if (!in(n, 0, 99)) {
            return -3;
        }
        remember(world.copy());
        int was = world.gale;
        world.gale = n;
        return was;
    }

    int hours(int n) {
        if (!in(n, 1, 48)) {
            return -3;
        }
        remember(world.copy());
        int times = 0;
        for (int i = 0; i < n; i++) {
            times += world.hour(0);
        }
        return times;
    }

    int undo(int n) {
        if (!in(n, 1, 10) || n > past.size()) {
            return -3;
        }
        for (int i = 0; i < n; i++) {
            world = past.removeLast();
        }
        return past.size();
    }

    int judge(int t, int what) {
        if (!tray(t) || !in(what, 0, 3)) {
            return -2;
        }
        if (trays[t] == null) {
            return -6;
        }
        World then = world.copy();
        int first = NONE;
        int why = 0;
        for (int i = 0; i < trays[t].length && why == 0; i++) {
            why = then.deed(trays[t][i]);
            first = why == 0 ? NONE : i;
        }
        int all = 0;
        for (int p = 0; p < then.sea.people.size(); p++) {
            boolean heard = true;
            for (Word word : then.words) {
                heard &= word.heard[p];
            }
            all |= heard ? 1 << p : 0;
        }
        return new int[] {first, why, then.hour, all}[what];
    }

    int perform(int t) {
        if (!tray(t)) {
            return -2;
        }
        if (trays[t] == null) {
            return -6;
        }
        World before = world.copy();
        int done = 0;
        while (done < trays[t].length && world.deed(trays[t][done]) == 0) {
            done++;
        }
        if (done > 0) {
            remember(before);
        }
        return done;
    }

    int days(int seed, int times) {
        if (!in(times, 1, 30)) {
            return -3;
        }
        World before = world.copy();
        world.x = seed;
        int could = 0;
        for (int i = 0; i < times; i++) {
            int kind = world.draw() % 5;
            int why;
            if (kind < 2) {
                why = world.deed(NONE);
            } else if (kind == 2) {
                why = world.deed(world.draw() % world.sea.beaches);
            } else if (kind == 4) {
                why = world.deed(2000 + world.draw() % 6);
            } else if (world.holder.length == 0 || world.sea.people.isEmpty()) {
                why = 1;
            } else {
                int k = world.draw() % world.holder.length;
                why = world.deed(100 + 100 * k + world.draw() % world.sea.people.size());
            }
            could += why == 0 ? 1 : 0;
        }
        if (could == 0) {
            world = before;
        } else {
            remember(before);
        }
        return could;
    }

    int comesIn(int w, int b) {
        if (!said(w) || !beach(b)) {
            return -2;
        }
        for (int n = 0; n <= 99; n++) {
            if (world.after(n).words.get(w).at[b]) {
                return n;
            }
        }
        return NONE;
    }

    int hearsIn(int w, int p) {
        if (!said(w) || !human(p)) {
            return -2;
        }
        for (int n = 0; n <= 99; n++) {
            if (world.after(n).words.get(w).heard[p]) {
                return n;
            }
        }
        return NONE;
    }

    int heard(int w, int n) {
        if (!said(w)) {
            return -2;
        }
        if (!in(n, 0, 99)) {
            return -3;
        }
        return bits(world.after(n).words.get(w).heard);
    }

    int loudest(int n) {
        if (!in(n, 0, 99)) {
            return -3;
        }
        World then = world.after(n);
        int best = NONE;
        int most = -1;
        for (int w = 0; w < then.words.size(); w++) {
            int heard = Integer.bitCount(bits(then.words.get(w).heard));
            if (heard > most) {
                most = heard;
                best = w;
            }
        }
        return best;
    }

    int hearers(int b, int w, int n) {
        if (!beach(b)) {
            return -2;
        }
        if (!in(w, 0, 23) || !in(n, 0, 48)) {
            return -3;
        }
        return world.hearers(b, w, n, 0, 0);
    }

    int far(int b, int c) {
        if (!beach(b) || !beach(c)) {
            return -2;
        }
        for (int n = 0; n <= 48; n++) {
            if (world.call(b, 0, n, 0, 0).words.get(0).at[c]) {
                return n;
            }
        }
        return NONE;
    }

    int reaches(int b, int p) {
        if (!beach(b) || !human(p)) {
            return -2;
        }
        for (int n = 1; n <= 48; n++) {
            if (world.call(b, 0, n, 0, 0).words.get(0).heard[p]) {
                return n;
            }
        }
        return NONE;
    }

    int secret(int set, int n, int what) {
        if (!in(what, 0, 1)) {
            return -2;
        }
        if (set >>> world.sea.people.size() != 0 || !in(n, 0, 48)) {
            return -3;
        }
        for (int w = 0; w < 24; w++) {
            for (int b = 0; b < world.sea.beaches; b++) {
                if (world.hearers(b, w, n, 0, 0) == set) {
                    return what == 0 ? w : b;
                }
            }
        }
        return NONE;
    }

    int widest(int n) {
        if (!in(n, 0, 48)) {
            return -3;
        }
        int best = 0;
        for (int b = 1; b < world.sea.beaches; b++) {
            if (Integer.bitCount(world.hearers(b, 0, n, 0, 0)) > Integer.bitCount(world.hearers(best, 0, n, 0, 0))) {
                best = b;
            }
        }
        return best;
    }

    /** All sets by their number of bits, then by their value. */
    static List<Integer> setsOf(int things) {
        List<Integer> sets = new ArrayList<>();
        for (int size = 0; size <= things; size++) {
            for (int set = 0; set < 1 << things; set++) {
                if (Integer.bitCount(set) == size) {
                    sets.add(set);
                }
            }
        }
        return sets;
    }

    int shut(int b, int p, int n, int what) {
        if (!beach(b) || !human(p) || !in(what, 0, 1)) {
            return -2;
        }
        if (!in(n, 0, 48)) {
            return -3;
        }
        for (int set : setsOf(world.sea.currents.size())) {
            if ((world.hearers(b, 0, n, set, 0) >> p & 1) == 0) {
                return what == 0 ? Integer.bitCount(set) : set;
            }
        }
        return NONE;
    }

    int take(int b, int p, int n, int what) {
        if (!beach(b) || !human(p) || !in(what, 0, 1)) {
            return -2;
        }
        if (!in(n, 0, 48)) {
            return -3;
        }
        for (int set : setsOf(world.holder.length)) {
            if ((world.hearers(b, 0, n, 0, set) >> p & 1) == 0) {
                return what == 0 ? Integer.bitCount(set) : set;
            }
        }
        return NONE;
    }

    int needs(int b, int n) {
        if (!beach(b)) {
            return -2;
        }
        if (!in(n, 0, 48)) {
            return -3;
        }
        int all = Integer.bitCount(world.hearers(b, 0, n, 0, 0));
        int set = 0;
        for (int k = 0; k < world.sea.currents.size(); k++) {
            set |= Integer.bitCount(world.hearers(b, 0, n, 1 << k, 0)) < all ? 1 << k : 0;
        }
        return set;
    }

    int watched(int set, int n) {
        int from = 0;
        for (int b = 0; b < world.sea.beaches; b++) {
            from += (bits(world.call(b, 0, n, 0, 0).words.get(0).at) & set) != 0 ? 1 : 0;
        }
        return from;
    }

    int spies(int k, int n, int what) {
        if (!in(what, 0, 1)) {
            return -2;
        }
        if (!in(k, 1, world.sea.beaches) || !in(n, 0, 48)) {
            return -3;
        }
        int best = NONE;
        for (int set : setsOf(world.sea.beaches)) {
            if (Integer.bitCount(set) == k && (best == NONE || watched(set, n) > watched(best, n))) {
                best = set;
            }
        }
        return what == 0 ? watched(best, n) : best;
    }

    int watch(int n) {
        if (!in(n, 0, 48)) {
            return -3;
        }
        for (int set : setsOf(world.sea.beaches)) {
            if (watched(set, n) == world.sea.beaches) {
                return Integer.bitCount(set);
            }
        }
        throw new IllegalStateException();
    }

    int hears(int p) {
        if (!human(p)) {
            return -2;
        }
        int set = 0;
        for (int q = 0; q < world.sea.people.size(); q++) {
            set |= world.hears(p, q) ? 1 << q : 0;
        }
        return set;
    }

    int mutual() {
        return world.mutual();
    }

    int passes(int p, int q) {
        if (!human(p) || !human(q) || p == q) {
            return -2;
        }
        return chain(p, q, 1 << p);
    }

    /** The shortest chain that goes by nobody of a set. */
    int chain(int p, int q, int met) {
        if (world.hears(q, p)) {
            return 1;
        }
        int best = NONE;
        for (int r = 0; r < world.sea.people.size(); r++) {
            if ((met >> r & 1) == 0 && world.hears(r, p)) {
                int rest = chain(r, q, met | 1 << r);
                if (rest != NONE && (best == NONE || rest + 1 < best)) {
                    best = rest + 1;
                }
            }
        }
        return best;
    }

    int gift() {
        int best = NONE;
        int most = world.mutual();
        for (int k = 0; k < world.holder.length; k++) {
            for (int p = 0; p < world.sea.people.size(); p++) {
                World then = world.copy();
                then.holder[k] = p;
                if (world.holder[k] != p && then.mutual() > most) {
                    most = then.mutual();
                    best = 10 * k + p;
                }
            }
        }
        return best;
    }

    int toldCode(int t) {
        if (!tray(t)) {
            return -2;
        }
        if (trays[t] == null) {
            return -6;
        }
        return in(trays[t].length, 1, 24) ? 0 : -4;
    }

    int slipsOf(int t, int b) {
        int slips = 0;
        for (int i = 0; i < trays[t].length; i++) {
            slips += trays[t][i] == NONE || trays[t][i] == soundIn(b, i) ? 0 : 1;
        }
        return slips;
    }

    int fits(int t) {
        int code = toldCode(t);
        for (int b = 0; toldCode(t) == 0 && b < world.sea.beaches; b++) {
            code |= slipsOf(t, b) == 0 ? 1 << b : 0;
        }
        return code;
    }

    int slips(int t, int b) {
        if (!tray(t) || !beach(b)) {
            return -2;
        }
        return toldCode(t) != 0 ? toldCode(t) : slipsOf(t, b);
    }

    int likeliest(int t) {
        if (toldCode(t) != 0) {
            return toldCode(t);
        }
        int best = 0;
        for (int b = 1; b < world.sea.beaches; b++) {
            best = slipsOf(t, b) < slipsOf(t, best) ? b : best;
        }
        return best;
    }

    int look(int t) {
        int set = fits(t);
        if (set <= 0) {
            return set == 0 ? NONE : set;
        }
        int best = NONE;
        int least = 100;
        for (int n = 0; n <= 99; n++) {
            int[] alike = new int[100];
            for (int b = 0; b < 6; b++) {
                if ((set >> b & 1) == 1) {
                    alike[soundIn(b, n)]++;
                }
            }
            int most = Arrays.stream(alike).max().getAsInt();
            if (most < least) {
                least = most;
                best = n;
            }
        }
        return best;
    }

    int unlike(int b, int c) {
        if (!beach(b) || !beach(c)) {
            return -2;
        }
        int n = 0;
        for (int i = 0; i < 24; i++) {
            n += soundIn(b, i) != soundIn(c, i) ? 1 : 0;
        }
        return n;
    }

    int pairs(int what) {
        int shells = world.holder.length;
        if (what != 0 && !(what >= 10 && what < 10 + shells)) {
            return -2;
        }
        List<int[]> all = new ArrayList<>();
        int[] partner = new int[shells];
        Arrays.fill(partner, -7);
        allPairings(partner, all);
        int[] best = null;
        for (int[] one : all) {
            int order = best == null ? -1 : Integer.compare(cost(one), cost(best));
            if (order < 0 || order == 0 && Arrays.compare(one, best) < 0) {
                best = one;
            }
        }
        if (what == 0) {
            return cost(best);
        }
        return best[what - 10] == 99 ? NONE : best[what - 10];
    }

    /** Partners of all shells, 99 for the one left over. */
    void allPairings(int[] partner, List<int[]> all) {
        int k = 0;
        int left = 0;
        while (k < partner.length && partner[k] != -7) {
            k++;
        }
        for (int p : partner) {
            left += p == 99 ? 1 : 0;
        }
        if (k == partner.length) {
            all.add(partner);
            return;
        }
        for (int j = k + 1; j < partner.length; j++) {
            if (partner[j] == -7) {
                int[] next = partner.clone();
                next[k] = j;
                next[j] = k;
                allPairings(next, all);
            }
        }
        if (left == 0 && partner.length % 2 == 1) {
            int[] next = partner.clone();
            next[k] = 99;
            allPairings(next, all);
        }
    }

    int cost(int[] partner) {
        int sum = 0;
        for (int k = 0; k < partner.length; k++) {
            if (partner[k] != 99 && partner[k] > k) {
                sum += unlike(world.sea.shells.get(k)[0], world.sea.shells.get(partner[k])[0]);
            }
        }
        return sum;
    }

    int numbers(int t, int sort, int n) {
        if (!tray(t) || !in(sort, 0, 3)) {
            return -2;
        }
        if (!in(n, 0, 40)) {
            return -3;
        }
        trays[t] = new long[n];
        sorts[t] = sort;
        return 0;
    }

    long write(int t, int i, long v) {
        if (!tray(t)) {
            return -2;
        }
        if (trays[t] == null) {
            return -6;
        }
        if (i < 0 || i >= trays[t].length) {
            return -7;
        }
        int unused = 64 - (8 << sorts[t]);
        trays[t][i] = v << unused >> unused;
        return trays[t][i];
    }

    int lists(int t, int k) {
        if (!tray(t) || !conch(k)) {
            return -2;
        }
        if (trays[t] == null) {
            return -6;
        }
        for (int i = 0; i < trays[t].length; i++) {
            trays[t][i] = soundIn(world.sea.shells.get(k)[0], i);
        }
        return trays[t].length;
    }

    int image(int i) {
        if (!in(i, 0, 1)) {
            return -2;
        }
        images[i] = world.copy();
        return 0;
    }

    int restore(int i) {
        if (!in(i, 0, 1)) {
            return -2;
        }
        if (images[i] == null) {
            return -5;
        }
        world = images[i].copy();
        past.clear();
        return 0;
    }

    int count(int what) {
        int[] counts = {world.sea.beaches, world.sea.currents.size(), world.sea.people.size(), world.holder.length,
            world.words.size(), world.hour, world.gale, past.size(), tape.length(), world.sea.lines};
        return in(what, 0, 9) ? counts[what] : NONE;
    }
}
