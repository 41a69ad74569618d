import java.util.ArrayList;
import java.util.List;
import java.util.Random;

/** Drawn seas and drawn calls: the class and the model must answer alike. */
public final class ModelTest {
    private static final int RUNS = Integer.getInteger("runs", 400);
    private static final int CALLS = 500;
    private static int wrong = 0;

    private final Random random;
    private final HallShells due = new HallShells();
    private final Model model = new Model();
    private final List<String> told = new ArrayList<>();
    private boolean failed = false;

    private ModelTest(long seed) {
        random = new Random(seed);
    }

    public static void main(String[] args) {
        long first = args.length > 0 ? Long.parseLong(args[0]) : 1;
        for (long seed = first; seed < first + RUNS && wrong < 5; seed++) {
            new ModelTest(seed).run(seed);
        }
        System.out.println(wrong == 0 ? "all answers are the model's" : wrong + " runs are not as the model's");
        if (wrong != 0) {
            System.exit(1);
        }
    }

    private void run(long seed) {
        for (int i = 0; i < CALLS && !failed; i++) {
            if (i == 0 || random.nextInt(60) == 0) {
                tellSea();
            } else {
                call(random.nextInt(56));
            }
        }
        if (failed) {
            wrong++;
            System.out.println("seed " + seed + ":");
            for (String line : told) {
                System.out.println("  " + line);
            }
        }
    }

    private void same(String call, long got, long want) {
        told.add(call + " = " + got);
        if (got != want && !failed) {
            failed = true;
            told.add("^^ the model says " + want);
        }
    }

    // ---- texts

    private void tellSea() {
        String text = random.nextInt(5) == 0 ? spoilt(seaText()) : seaText();
        if (text.length() > 900) {
            text = text.substring(0, 900);
        }
        told.add("\"" + text + "\"");
        for (int i = 0; i < text.length(); i += 20) {
            int[] fours = new int[5];
            for (int j = 0; j < 20; j++) {
                int sign = i + j < text.length() ? text.charAt(i + j) : ' ';
                fours[j / 4] = fours[j / 4] << 8 | sign;
            }
            same("feed", due.feed(fours[0], fours[1], fours[2], fours[3], fours[4]),
                model.feed(fours[0], fours[1], fours[2], fours[3], fours[4]));
        }
        same("sea(" + text.length() + ")", due.sea(text.length()), model.sea(text.length()));
        same("fault(0)", due.fault(0), model.fault(0));
        same("fault(1)", due.fault(1), model.fault(1));
    }

    private String spoilt(String text) {
        StringBuilder spoilt = new StringBuilder(text);
        for (int i = random.nextInt(3); i >= 0 && spoilt.length() > 0; i--) {
            int at = random.nextInt(spoilt.length());
            switch (random.nextInt(4)) {
                case 0 -> spoilt.deleteCharAt(at);
                case 1 -> spoilt.insert(at, " 0123456789;:+-*()[]=<>abdefot\n\t,A".charAt(random.nextInt(33)));
                case 2 -> spoilt.setCharAt(at, (char) random.nextInt(256));
                default -> {
                    String[] words = {" not ", " [ ", " ( ", " hour ", " words ", " current 0 1 takes 1;", " person;",
                        " shell 0;", " sea 2;", " at 9 ", " ) ", " ] "};
                    spoilt.insert(at, words[random.nextInt(words.length)]);
                }
            }
        }
        return spoilt.toString();
    }

    private String seaText() {
        int beaches = 1 + random.nextInt(6);
        int people = 0;
        StringBuilder text = new StringBuilder(random.nextInt(9) == 0 ? "\n sea " : "sea ").append(beaches).append(";");
        List<String> lines = new ArrayList<>();
        int currents = random.nextInt(random.nextInt(3) == 0 ? 12 : 10);
        for (int i = 0; i < currents && beaches > 1; i++) {
            int from = random.nextInt(beaches);
            int to = (from + 1 + random.nextInt(beaches - 1)) % beaches;
            lines.add("current " + from + " " + to + " takes " + (1 + random.nextInt(random.nextInt(2) == 0 ? 3 : 9)));
        }
        int folk = random.nextInt(random.nextInt(5) == 0 ? 8 : 7);
        for (int i = 0; i < folk; i++) {
            lines.add("person" + (random.nextInt(4) == 0 ? "" : " at " + random.nextInt(beaches))
                + (random.nextInt(6) == 0 ? " deaf" : ""));
            people++;
        }
        int shells = random.nextInt(random.nextInt(5) == 0 ? 10 : 9);
        for (int i = 0; i < shells; i++) {
            lines.add("shell " + random.nextInt(beaches)
                + (people == 0 || random.nextInt(3) == 0 ? "" : " by " + random.nextInt(people)));
        }
        if (random.nextInt(2) == 0) {
            lines.add("sounds : " + sum("beach", "beach", "hour", 2));
        }
        if (random.nextInt(2) == 0) {
            lines.add("open: " + truth("from", "to", "takes", 2));
        }
        if (random.nextInt(2) == 0) {
            lines.add("listens:" + truth("who", "home", "words", 2));
        }
        if (random.nextInt(3) == 0) {
            lines.add("gale " + random.nextInt(random.nextInt(2) == 0 ? 6 : 100));
        }
        if (random.nextInt(2) == 0) {
            lines.add("hour " + random.nextInt(1000));
        }
        if (random.nextInt(10) == 0) {
            lines.add("person at 0 at " + random.nextInt(beaches));
        }
        for (String line : lines) {
            text.append(line).append(random.nextInt(5) == 0 ? " ;\n" : ";");
        }
        return text.toString();
    }

    private String atom(String a, String b, String c, int depth) {
        switch (random.nextInt(depth > 0 ? 9 : 8)) {
            case 0: return a;
            case 1: return b;
            case 2: return c;
            case 3: return "hour";
            case 4: return "gale";
            case 5: return "" + random.nextInt(1000);
            case 8: return "(" + sum(a, b, c, depth - 1) + ")";
            default: return "" + random.nextInt(12);
        }
    }

    private String sum(String a, String b, String c, int depth) {
        String[] signs = {" + ", " - ", "+", "-", " * ", "*"};
        StringBuilder sum = new StringBuilder(atom(a, b, c, depth));
        for (int i = random.nextInt(4); i > 0; i--) {
            sum.append(signs[random.nextInt(signs.length)]).append(atom(a, b, c, depth));
        }
        return sum.toString();
    }

    private String truth(String a, String b, String c, int depth) {
        StringBuilder truth = new StringBuilder();
        for (int i = random.nextInt(3); i >= 0; i--) {
            switch (random.nextInt(depth > 0 ? 6 : 3)) {
                case 3 -> truth.append("not ").append("[").append(truth(a, b, c, depth - 1)).append("]");
                case 4 -> truth.append("[").append(truth(a, b, c, depth - 1)).append("]");
                case 5 -> truth.append("not not hour > ").append(random.nextInt(24));
                default -> truth.append(random.nextInt(2) == 0 ? "hour" : atom(a, b, c, depth))
                    .append(random.nextBoolean() ? " > " : random.nextBoolean() ? "<" : " = ")
                    .append(random.nextInt(2) == 0 ? "" + random.nextInt(24) : atom(a, b, c, depth));
            }
            if (i > 0) {
                truth.append(random.nextBoolean() ? " or " : " and ");
            }
        }
        return truth.toString();
    }

    // ---- calls

    /** Mostly 0 to most, sometimes just outside it. */
    private int n(int most) {
        int odd = random.nextInt(40);
        if (odd == 0) {
            return -1;
        }
        if (odd == 1) {
            return most + 1;
        }
        if (odd == 2) {
            return random.nextInt();
        }
        return random.nextInt(most + 1);
    }

    /** What there is of something, mostly. */
    private int of(int what) {
        return n(Math.max(0, model.count(what) - (random.nextInt(8) == 0 ? 0 : 1)));
    }

    private long number() {
        switch (random.nextInt(9)) {
            case 0: return of(0);
            case 1: return 100 + 100 * of(3) + of(2);
            case 2: return 1000 + of(3);
            case 3: return 2000 + random.nextInt(8);
            case 4: return random.nextInt(100);
            case 5: return random.nextInt(40) == 0 ? random.nextLong() : of(0);
            case 6: return random.nextInt(40) == 0 ? random.nextInt(2300) - 100 : -1;
            default: return -1;
        }
    }

    private void call(int which) {
        int a;
        int b;
        int c;
        int d;
        switch (which) {
            case 0 -> { a = of(1); b = n(3); same("current " + a + " " + b, due.current(a, b), model.current(a, b)); }
            case 1 -> { a = of(2); b = n(4); same("person " + a + " " + b, due.person(a, b), model.person(a, b)); }
            case 2 -> { a = of(3); b = n(1); same("shell " + a + " " + b, due.shell(a, b), model.shell(a, b)); }
            case 3 -> { a = of(4); b = n(2); same("word " + a + " " + b, due.word(a, b), model.word(a, b)); }
            case 4 -> { a = of(0); b = n(999); same("sound " + a + " " + b, due.sound(a, b), model.sound(a, b)); }
            case 5 -> { a = random.nextInt(); same("seed " + a, due.seed(a), model.seed(a)); }
            case 6, 7 -> { a = of(0); same("whisper " + a, due.whisper(a), model.whisper(a)); }
            case 8 -> { a = of(3); b = of(2); same("give " + a + " " + b, due.give(a, b), model.give(a, b)); }
            case 9 -> { a = of(3); same("lay " + a, due.lay(a), model.lay(a)); }
            case 10 -> { a = n(random.nextInt(3) == 0 ? 99 : 6); same("gale " + a, due.gale(a), model.gale(a)); }
            case 11, 12 -> { a = n(random.nextInt(3) == 0 ? 48 : 4); same("hours " + a, due.hours(a), model.hours(a)); }
            case 13 -> { a = n(random.nextInt(2) == 0 ? 10 : 2); same("undo " + a, due.undo(a), model.undo(a)); }
            case 14, 15 -> { a = n(3); b = n(3); same("judge " + a + " " + b, due.judge(a, b), model.judge(a, b)); }
            case 16 -> { a = n(3); same("perform " + a, due.perform(a), model.perform(a)); }
            case 17 -> { a = random.nextInt(); b = n(random.nextInt(2) == 0 ? 30 : 4);
                same("days " + a + " " + b, due.days(a, b), model.days(a, b)); }
            case 18 -> { a = of(4); b = of(0); same("comesIn " + a + " " + b, due.comesIn(a, b), model.comesIn(a, b)); }
            case 19 -> { a = of(4); b = of(2); same("hearsIn " + a + " " + b, due.hearsIn(a, b), model.hearsIn(a, b)); }
            case 20 -> { a = of(4); b = n(99); same("heard " + a + " " + b, due.heard(a, b), model.heard(a, b)); }
            case 21 -> { a = n(99); same("loudest " + a, due.loudest(a), model.loudest(a)); }
            case 22, 23 -> { a = of(0); b = n(23); c = n(48);
                same("hearers " + a + " " + b + " " + c, due.hearers(a, b, c), model.hearers(a, b, c)); }
            case 24 -> { a = of(0); b = of(0); same("far " + a + " " + b, due.far(a, b), model.far(a, b)); }
            case 25 -> { a = of(0); b = of(2); same("reaches " + a + " " + b, due.reaches(a, b), model.reaches(a, b)); }
            case 26 -> { a = n(1 << model.count(2)); b = n(random.nextInt(2) == 0 ? 48 : 5); c = n(1);
                same("secret " + a + " " + b + " " + c, due.secret(a, b, c), model.secret(a, b, c)); }
            case 27 -> { a = n(48); same("widest " + a, due.widest(a), model.widest(a)); }
            case 28, 29 -> { a = of(0); b = of(2); c = n(random.nextInt(2) == 0 ? 48 : 12); d = n(1);
                if (model.count(1) < 7 || random.nextInt(6) == 0) {
                    same("shut " + a + " " + b + " " + c + " " + d, due.shut(a, b, c, d), model.shut(a, b, c, d));
                } }
            case 30, 31 -> { a = of(0); b = of(2); c = n(random.nextInt(2) == 0 ? 48 : 12); d = n(1);
                same("take " + a + " " + b + " " + c + " " + d, due.take(a, b, c, d), model.take(a, b, c, d)); }
            case 32 -> { a = of(0); b = n(48); same("needs " + a + " " + b, due.needs(a, b), model.needs(a, b)); }
            case 33 -> { a = n(model.count(0)); b = n(random.nextInt(2) == 0 ? 48 : 6); c = n(1);
                same("spies " + a + " " + b + " " + c, due.spies(a, b, c), model.spies(a, b, c)); }
            case 34 -> { a = n(random.nextInt(2) == 0 ? 48 : 6); same("watch " + a, due.watch(a), model.watch(a)); }
            case 35 -> { a = of(2); same("hears " + a, due.hears(a), model.hears(a)); }
            case 36 -> same("mutual", due.mutual(), model.mutual());
            case 37 -> { a = of(2); b = of(2); same("passes " + a + " " + b, due.passes(a, b), model.passes(a, b)); }
            case 38 -> same("gift", due.gift(), model.gift());
            case 39 -> { a = n(3); same("fits " + a, due.fits(a), model.fits(a)); }
            case 40 -> { a = n(3); b = of(0); same("slips " + a + " " + b, due.slips(a, b), model.slips(a, b)); }
            case 41 -> { a = n(3); same("likeliest " + a, due.likeliest(a), model.likeliest(a)); }
            case 42 -> { a = n(3); same("look " + a, due.look(a), model.look(a)); }
            case 43 -> { a = of(0); b = of(0); same("unlike " + a + " " + b, due.unlike(a, b), model.unlike(a, b)); }
            case 44 -> { a = random.nextInt(3) == 0 ? n(12) : 10 + of(3); same("pairs " + a, due.pairs(a), model.pairs(a)); }
            case 45 -> { a = n(3); b = n(3); c = n(random.nextInt(3) == 0 ? 40 : 6);
                same("numbers " + a + " " + b + " " + c, due.numbers(a, b, c), model.numbers(a, b, c)); }
            case 46, 47, 48, 49 -> { a = n(3); b = n(5); long v = number();
                same("write " + a + " " + b + " " + v, due.write(a, b, v), model.write(a, b, v)); }
            case 50 -> { a = n(3); b = of(3); same("lists " + a + " " + b, due.lists(a, b), model.lists(a, b)); }
            case 51 -> { a = n(1); same("image " + a, due.image(a), model.image(a)); }
            case 52 -> { a = n(1); same("restore " + a, due.restore(a), model.restore(a)); }
            case 53 -> { a = n(1000); same("sea " + a, due.sea(a), model.sea(a)); }
            default -> { a = n(9); same("count " + a, due.count(a), model.count(a)); }
        }
    }
}
