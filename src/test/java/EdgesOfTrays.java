import java.util.ArrayList;
import java.util.List;
import java.util.function.ToLongFunction;

/** Sentences of trays, images and codes: promises 44 to 49, and how long an object is used. */
final class EdgesOfTrays extends Edges {
    private static final int TERMS = Document.TERMS;

    static void run() {
        calls512();
        trays();
        images();
        refused();
        codesFirst();
        none();
        numbers();
        writes();
        lists();
        image();
        restore();
        counts();
    }

    private static void calls512() {
        sentence(Document.WHAT_IT_IS, "An object is used for at most 512 calls after it has been made; what later calls answer is free.");
        HallShells x = new HallShells();
        for (int i = 1; i <= 511; i++) {
            due("call " + i, x.seed(i), i - 1);
        }
        due("call 512", x.seed(0), 511);
        x = of("sea 2;hour 999;person at 1;current 0 1 takes 1;");
        int told = 4;
        for (int i = told; i < 511; i++) {
            due("call " + i, x.hours(48), 0);
        }
        due("call 512", x.count(5), 999 + 48 * (511 - told));
        for (int i = 0; i < 2000; i++) {
            x.hours(48);
            x.days(i, 30);
            x.sound(0, 999);
        }
    }

    private static void trays() {
        sentence(TERMS, "TRAYS 0 to 3 are MISSING at first, or have 0 to 40 numbers of 8 bits (sort 0), 16 (1), 32 (2), 64 (3).");
        HallShells x = of("sea 1;shell 0;");
        for (int tray = 0; tray < 4; tray++) {
            due("missing", x.write(tray, 0, 5), -6);
            due("missing", x.judge(tray, 0), -6);
            due("missing", x.perform(tray), -6);
            due("missing", x.fits(tray), -6);
            due("missing", x.lists(tray, 0), -6);
        }
        due("no tray 4", x.write(4, 0, 5), -2);
        due("no tray -1", x.write(-1, 0, 5), -2);
        long[] most = {Byte.MAX_VALUE, Short.MAX_VALUE, Integer.MAX_VALUE, Long.MAX_VALUE};
        for (int sort = 0; sort < 4; sort++) {
            due("0 numbers", x.numbers(sort, sort, 0), 0);
            due("none to write", x.write(sort, 0, 5), -7);
            due("no deeds", x.perform(sort), 0);
            due("40 numbers", x.numbers(sort, sort, 40), 0);
            due("the last", x.write(sort, 39, most[sort]), most[sort]);
            due("1 more", x.write(sort, 39, most[sort] + 1), -most[sort] - 1);
            due("none behind it", x.write(sort, 40, 5), -7);
            due("one tray alone", x.write((sort + 1) % 4, 0, 1), sort < 3 ? -6 : 1);
        }
    }

    private static void images() {
        sentence(TERMS, "IMAGES 0 to 1: THE SEA and what a call could bring back by UNDOING; nothing can be UNDONE behind (none at first).");
        HallShells x = of("sea 2;person at 1;person;shell 0 by 0;shell 1;current 0 1 takes 9;hour 3;sounds: hour + beach;");
        due("none at first", x.restore(0), -5);
        due("none at first", x.restore(1), -5);
        x.whisper(0);
        x.whisper(1);
        x.give(1, 1);
        x.seed(-9);
        x.hours(2);
        x.gale(6);
        x.image(1);
        due("the other one isn't made", x.restore(0), -5);
        due("what can be undone stays", x.count(7), 6);
        feed(x, "sea 4;person;hour 5;");
        due("another sea", x.sea(20), 3);
        x.whisper(3);
        x.seed(4);
        x.numbers(0, 0, 3);
        feed(x, "sea 0;");
        x.sea(6);
        feed(x, "sea 0;");
        due("restored", x.restore(1), 0);
        int[] counts = {2, 1, 2, 2, 2, 5, 6, 0, 20, 8};
        for (int what = 0; what < 10; what++) {
            due("count " + what, x.count(what), counts[what]);
        }
        due("nothing can be undone", x.undo(1), -3);
        due("laws", x.sound(1, 0), 6);
        due("shell", x.shell(1, 1), 1);
        due("under way", x.word(0, 1), 1);
        due("heard", x.word(1, 2), 3);
        due("x", x.seed(0), -9);
        due("a tray is in none", x.write(0, 2, 4), 4);
        due("a fault is in none", x.fault(0), 3);
        due("the word goes on", x.comesIn(0, 1), 7);
        x.hours(10);
        x.image(0);
        due("restored again", x.restore(1), 0);
        due("hour", x.count(5), 5);
        due("the other one", x.restore(0), 0);
        due("hour", x.count(5), 15);
    }

    // ---- refused calls

    /** An object in which much has been done, always the same. */
    private static HallShells busy() {
        HallShells x = new HallShells();
        String text = "sea 3;current 0 1 takes 2;current 1 2 takes 9;person at 0;person;person at 2 deaf;shell 1 by 1;shell 2;shell 0 by 0;hour 30;"
            + "sounds: hour * beach;listens: words < 3;";
        feed(x, text);
        x.sea(text.length());
        x.whisper(0);
        x.hours(3);
        x.seed(99);
        x.gale(5);
        x.image(1);
        x.give(0, 0);
        x.numbers(0, 0, 3);
        x.write(0, 0, NONE);
        x.write(0, 1, 2);
        x.write(0, 2, NONE);
        x.numbers(1, 1, 25);
        x.numbers(2, 3, 0);
        feed(x, "sea 2;");
        x.sea(5);
        feed(x, "sea 2;hour 4;");
        return x;
    }

    /** All that can be asked of such an object, and then what can be brought back. */
    private static List<Long> answers(HallShells x) {
        List<Long> all = new ArrayList<>();
        for (int what = 0; what < 10; what++) {
            all.add((long) x.count(what));
            all.add((long) x.fault(what));
            for (int i = 0; i < 3; i++) {
                all.add((long) x.current(i, what));
                all.add((long) x.person(i, what));
                all.add((long) x.shell(i, what));
                all.add((long) x.word(i, what));
                all.add((long) x.sound(i, what));
            }
        }
        for (int tray = 0; tray < 4; tray++) {
            for (int what = 0; what < 4; what++) {
                all.add((long) x.judge(tray, what));
            }
            all.add((long) x.fits(tray));
            all.add((long) x.likeliest(tray));
            all.add((long) x.slips(tray, 1));
        }
        all.add((long) x.perform(0));
        all.add((long) x.seed(1));
        all.add(x.write(0, 2, 300));
        all.add(x.write(1, 24, 70000));
        all.add(x.write(2, 0, 1));
        all.add(x.write(3, 0, 1));
        for (int i = 0; i < 8; i++) {
            all.add((long) x.undo(1));
            all.add((long) x.count(5));
            all.add((long) x.count(6));
            all.add((long) x.seed(2));
            all.add((long) x.undo(1));
        }
        all.add((long) x.restore(0));
        all.add((long) x.restore(1));
        all.add((long) x.count(5));
        all.add((long) x.sea(13));
        all.add((long) x.count(5));
        return all;
    }

    private static void refuses(String call, ToLongFunction<HallShells> refused, long code) {
        HallShells x = busy();
        due(call, refused.applyAsLong(x), code);
        List<Long> now = answers(x);
        List<Long> before = answers(busy());
        must(now.equals(before), call + " changed something: " + now + " were " + before);
    }

    private static void refused() {
        sentence(TERMS, "Refused calls answer by a code and change nothing: -2 there is none such; -3 a number can't be; -4 too many; -5 it can't be"
            + " now; -6 a TRAY is MISSING; -7 it has no such number; -11, -12 why not (1, 2); -30 less the FAULT: a text.");
        refuses("current", x -> x.current(2, 0), -2);
        refuses("person", x -> x.person(0, 5), -2);
        refuses("shell", x -> x.shell(3, 0), -2);
        refuses("word", x -> x.word(1, 0), -2);
        refuses("sound", x -> x.sound(0, 1000), -3);
        refuses("sea", x -> x.sea(21), -3);
        refuses("whisper", x -> x.whisper(3), -11);
        refuses("give", x -> x.give(0, 3), -11);
        refuses("give", x -> x.give(3, 0), -11);
        refuses("lay", x -> x.lay(3), -11);
        refuses("lay", x -> x.lay(1), -12);
        refuses("gale", x -> x.gale(100), -3);
        refuses("hours", x -> x.hours(49), -3);
        refuses("hours", x -> x.hours(0), -3);
        refuses("undo", x -> x.undo(6), -3);
        refuses("undo", x -> x.undo(0), -3);
        refuses("judge", x -> x.judge(3, 0), -6);
        refuses("perform", x -> x.perform(3), -6);
        refuses("perform", x -> x.perform(4), -2);
        refuses("days", x -> x.days(5, 31), -3);
        refuses("days", x -> x.days(5, 0), -3);
        refuses("comesIn", x -> x.comesIn(0, 3), -2);
        refuses("hearsIn", x -> x.hearsIn(0, 3), -2);
        refuses("heard", x -> x.heard(0, 100), -3);
        refuses("loudest", x -> x.loudest(100), -3);
        refuses("hearers", x -> x.hearers(0, 24, 0), -3);
        refuses("far", x -> x.far(0, 3), -2);
        refuses("reaches", x -> x.reaches(3, 0), -2);
        refuses("secret", x -> x.secret(8, 0, 0), -3);
        refuses("widest", x -> x.widest(49), -3);
        refuses("shut", x -> x.shut(0, 0, 49, 0), -3);
        refuses("take", x -> x.take(0, 0, 49, 0), -3);
        refuses("needs", x -> x.needs(0, 49), -3);
        refuses("spies", x -> x.spies(4, 0, 0), -3);
        refuses("watch", x -> x.watch(49), -3);
        refuses("hears", x -> x.hears(3), -2);
        refuses("passes", x -> x.passes(1, 1), -2);
        refuses("fits", x -> x.fits(1), -4);
        refuses("slips", x -> x.slips(2, 0), -4);
        refuses("likeliest", x -> x.likeliest(3), -6);
        refuses("look", x -> x.look(1), -4);
        refuses("unlike", x -> x.unlike(0, 3), -2);
        refuses("pairs", x -> x.pairs(13), -2);
        refuses("numbers", x -> x.numbers(0, 0, 41), -3);
        refuses("numbers", x -> x.numbers(0, 4, 4), -2);
        refuses("numbers", x -> x.numbers(3, 0, -1), -3);
        refuses("write", x -> x.write(0, 3, 5), -7);
        refuses("write", x -> x.write(3, 0, 5), -6);
        refuses("lists", x -> x.lists(0, 3), -2);
        refuses("lists", x -> x.lists(3, 0), -6);
        refuses("image", x -> x.image(2), -2);
        refuses("restore", x -> x.restore(0), -5);
        refuses("restore", x -> x.restore(2), -2);
        refusedByFullness();
    }

    private static void refusedByFullness() {
        HallShells x = new HallShells();
        for (int i = 0; i < 45; i++) {
            x.feed(0x20202020, 0x20202020, 0x20202020, 0x20202020, 0x20202020);
        }
        due("feed", x.feed(1, 2, 3, 4, 5), -5);
        due("feed", x.count(8), 900);
        due("blanks alone", x.sea(900), -32);
        due("blanks alone", x.fault(1), 900);
        for (int w = 0; w < 8; w++) {
            x.whisper(0);
        }
        due("whisper", x.whisper(0), -12);
        due("whisper", x.count(7), 8);
        feed(x, "sea 0;");
        due("a text", x.sea(6), -33);
        due("words stay", x.count(4), 8);
        due("calls stay", x.count(7), 8);
    }

    private static void codesFirst() {
        sentence(TERMS, "(Of several that which the call tells first; all these ahead of NONE.)");
        HallShells x = of("sea 2;person at 0;person at 1;shell 0;");
        due("sound", x.sound(2, 1000), -2);
        due("whisper", full().whisper(2), -11);
        due("judge: what ahead of missing", x.judge(0, 4), -2);
        due("heard", x.heard(0, 100), -2);
        due("loudest: -3 ahead of NONE", x.loudest(100), -3);
        due("hearers", x.hearers(2, 24, 49), -2);
        due("secret: what", x.secret(4, 49, 2), -2);
        due("secret: -3 ahead of NONE", x.secret(3, 49, 0), -3);
        due("shut", x.shut(2, 0, 49, 0), -2);
        due("shut", x.shut(0, 2, 49, 0), -2);
        due("shut", x.shut(0, 0, 49, 2), -2);
        due("shut: -3 ahead of NONE", x.shut(0, 0, 49, 0), -3);
        due("take", x.take(0, 0, 49, 2), -2);
        due("take: -3 ahead of NONE", x.take(0, 0, 49, 0), -3);
        due("needs", x.needs(2, 49), -2);
        due("spies: what", x.spies(0, 49, 2), -2);
        due("passes: both one ahead of NONE", x.passes(0, 0), -2);
        due("passes: -2 ahead of NONE", x.passes(0, 2), -2);
        due("slips: the beach ahead of missing", x.slips(0, 2), -2);
        x.numbers(0, 0, 25);
        due("slips: the beach ahead of -4", x.slips(0, 2), -2);
        due("look: -4 ahead of NONE", x.look(0), -4);
        due("look: -6 ahead of NONE", x.look(1), -6);
        due("numbers: the tray ahead of n", x.numbers(4, 0, 41), -2);
        due("numbers: the sort ahead of n", x.numbers(0, 4, 41), -2);
        due("write: the tray ahead of all", x.write(4, 99, 1), -2);
        due("write: missing ahead of the number", x.write(1, 99, 1), -6);
        due("lists: the shell ahead of missing", x.lists(1, 1), -2);
        due("restore: -2 ahead of -5", x.restore(2), -2);
    }

    private static HallShells full() {
        HallShells x = of("sea 2;");
        for (int w = 0; w < 8; w++) {
            x.whisper(1);
        }
        return x;
    }

    private static void none() {
        sentence(TERMS, "The constants: `NONE = -1`: There is none.");
        due("NONE", HallShells.NONE, -1);
        HallShells x = of("sea 1;person;shell 0;");
        due("no beach", x.person(0, 0), HallShells.NONE);
        due("nobody", x.shell(0, 1), HallShells.NONE);
        due("no place", x.fault(1), HallShells.NONE);
    }

    // ---- promises 44 to 49

    private static void numbers() {
        sentence(44, "A TRAY has n numbers of a sort, all 0 (in place of another one): 0.");
        HallShells x = of("sea 1;shell 0;sounds: 9;");
        due("40", x.numbers(3, 3, 40), 0);
        due("filled", x.lists(3, 0), 40);
        due("24 in its place", x.numbers(3, 0, 24), 0);
        due("cut to the new sort", x.write(3, 0, 256), 0);
        due("all 0", x.slips(3, 0), 24);
        due("filled again", x.lists(3, 0), 24);
        due("as they sound", x.fits(3), 1);
        due("all 0 again", x.numbers(3, 0, 24), 0);
        due("all 0 again", x.slips(3, 0), 24);
        due("0 in its place", x.numbers(3, 0, 0), 0);
        due("no numbers", x.write(3, 0, 1), -7);
        due("not missing", x.perform(3), 0);
        sentence(44, "-2: no such TRAY, sort; -3, and the TRAY stays: n is below 0 or above 40.");
        bounds("tray", tray -> x.numbers(tray, 0, 1), 0, 3, -2);
        bounds("sort", sort -> x.numbers(0, sort, 1), 0, 3, -2);
        bounds("n", n -> x.numbers(0, 0, n), 0, 40, -3);
        x.numbers(1, 1, 2);
        x.write(1, 1, 1000);
        due("above 40", x.numbers(1, 0, 41), -3);
        due("below 0", x.numbers(1, 0, -1), -3);
        due("no such sort", x.numbers(1, 4, 2), -2);
        due("its sort stays", x.write(1, 0, 999), 999);
        due("its size stays", x.write(1, 2, 0), -7);
        due("its numbers stay", x.slips(1, 0), 2);
        x.write(1, 0, 9);
        x.write(1, 1, 9);
        due("below 0", x.numbers(1, 0, -1), -3);
        due("its numbers stay", x.slips(1, 0), 0);
    }

    private static void writes() {
        sentence(45, "Number i of a TRAY is v, cut to its sort: as it is there.");
        HallShells x = of("sea 1;sounds: 44;");
        int[] bits = {8, 16, 32, 64};
        for (int sort = 0; sort < 4; sort++) {
            x.numbers(sort, sort, 40);
            long top = 1L << bits[sort] - 1;
            due("the greatest", x.write(sort, 39, top - 1), top - 1);
            due("above it", x.write(sort, 39, top), -top);
            due("the least", x.write(sort, 0, -top), -top);
            due("below it", x.write(sort, 0, -top - 1), top - 1);
            due("-1", x.write(sort, 0, -1), -1);
            due("0", x.write(sort, 0, 0), 0);
            due("2 to the bits, and 5", x.write(sort, 0, sort == 3 ? 5 : (1L << bits[sort]) + 5), 5);
            due("as many ones", x.write(sort, 0, sort == 3 ? -1 : (1L << bits[sort]) - 1), -1);
            due("the least of all", x.write(sort, 0, Long.MIN_VALUE), sort == 3 ? Long.MIN_VALUE : 0);
            due("the greatest of all", x.write(sort, 0, Long.MAX_VALUE), sort == 3 ? Long.MAX_VALUE : -1);
        }
        x.numbers(0, 0, 2);
        due("300 in 8 bits", x.write(0, 0, 300), 44);
        x.write(0, 1, 44);
        due("44 is there", x.fits(0), 1);
        sentence(45, "-2: no such TRAY; -6; -7.");
        for (int tray : new int[] {-1, 4, Integer.MIN_VALUE, Integer.MAX_VALUE}) {
            due("tray " + tray, x.write(tray, 0, 1), -2);
        }
        due("missing", new HallShells().write(3, 0, 1), -6);
        for (int i : new int[] {-1, 2, 40, Integer.MIN_VALUE, Integer.MAX_VALUE}) {
            due("number " + i, x.write(0, i, 1), -7);
        }
        due("number 40 of 40", x.write(1, 40, 1), -7);
        x.numbers(2, 0, 0);
        due("number 0 of none", x.write(2, 0, 1), -7);
    }

    private static void lists() {
        sentence(46, "SOUNDS of a shell in the HOURS from now on come into a TRAY, as many as it has places: how many.");
        HallShells x = of("sea 2;hour 23;gale 1;shell 1;shell 0;sounds: hour + beach * 30 + gale * 40;");
        for (int sort = 0; sort < 4; sort++) {
            x.numbers(sort, sort, 24);
            due("24", x.lists(sort, 0), 24);
            due("of beach 1", x.fits(sort), 2);
            due("24", x.lists(sort, 1), 24);
            due("of beach 0", x.fits(sort), 1);
        }
        x.numbers(0, 0, 40);
        due("40", x.lists(0, 0), 40);
        x.numbers(0, 0, 1);
        due("1", x.lists(0, 0), 1);
        due("this hour's", x.fits(0), 2);
        due("this hour's alone", x.write(0, 0, 93), 93);
        due("so it sounds", x.fits(0), 2);
        x.numbers(0, 0, 0);
        due("0", x.lists(0, 0), 0);
        due("nothing can be undone", x.count(7), 0);
        forty(of("sea 1;hour 5;shell 0;"));
        sentence(46, "-2: the TRAY, the shell; -6.");
        bounds("tray", tray -> x.lists(tray, 0), 0, 3, -2);
        bounds("shell", k -> x.lists(0, k), 0, 1, -2);
        due("missing", of("sea 1;shell 0;").lists(0, 0), -6);
        due("the shell ahead of missing", of("sea 1;shell 0;").lists(0, 1), -2);
        due("no shells", new HallShells().lists(0, 0), -2);
    }

    /** All forty sounds are 0, which are forty words as deeds; eight of them can be. */
    private static void forty(HallShells x) {
        x.numbers(2, 2, 40);
        for (int i = 0; i < 40; i++) {
            x.write(2, i, NONE);
        }
        due("forty hours", x.judge(2, 2), 45);
        due("forty sounds", x.lists(2, 0), 40);
        due("are not hours", x.judge(2, 2), 5);
        due("eight words", x.judge(2, 0), 8);
    }

    private static void image() {
        sentence(47, "An IMAGE is made: 0.");
        HallShells x = of("sea 3;");
        x.gale(5);
        due("0", x.image(0), 0);
        x.gale(6);
        due("1", x.image(1), 0);
        due("in place of another one", x.image(0), 0);
        x.gale(7);
        due("what can be undone stays", x.count(7), 3);
        x.restore(0);
        due("the later one", x.count(6), 6);
        sentence(47, "-2.");
        bounds("image", i -> x.image(i), 0, 1, -2);
    }

    private static void restore() {
        sentence(48, "All that is in an IMAGE is as it was: 0.");
        HallShells x = of("sea 3;sounds: 8;");
        x.image(0);
        x.whisper(2);
        x.gale(9);
        feed(x, "sea 1;");
        x.sea(6);
        due("another sea", x.sound(0, 0), 0);
        due("restored", x.restore(0), 0);
        due("sounds of the same hour", x.sound(0, 0), 8);
        due("beaches", x.count(0), 3);
        due("lines", x.count(9), 2);
        due("words", x.count(4), 0);
        due("sounds", x.sound(2, 0), 8);
        due("nothing can be undone", x.count(7), 0);
        x.gale(1);
        due("as often as one likes", x.restore(0), 0);
        due("gale", x.count(6), 0);
        x = of("sea 2;current 0 1 takes 1;person at 0;open: 1 = 0;listens: 1 = 0;");
        x.image(1);
        feed(x, "sea 2;current 0 1 takes 1;person at 0;");
        x.sea(38);
        due("open in another sea", x.current(0, 3), 1);
        due("listens in another sea", x.person(0, 4), 1);
        x.restore(1);
        due("open as it was", x.current(0, 3), 0);
        due("listens as it was", x.person(0, 4), 0);
        HallShells first = new HallShells();
        first.image(1);
        feed(first, "sea 6;person;");
        first.sea(13);
        due("of a sea without a text", first.restore(1), 0);
        due("beaches", first.count(0), 1);
        due("people", first.count(2), 0);
        due("lines", first.count(9), 0);
        sentence(48, "-2; -5: none was made.");
        bounds("image", i -> first.restore(i), 0, 1, -2);
        due("none was made", first.restore(0), -5);
        due("none was made", new HallShells().restore(1), -5);
        due("refused ones make none", new HallShells().image(2), -2);
    }

    private static void counts() {
        sentence(49, "0 BEACHES, 1 currents, 2 people, 3 shells, 4 WORDS, 5 HOUR, 6 HOURS a GALE blows still, 7 calls that can be UNDONE, 8 bytes on"
            + " THE TAPE, 9 LINES.");
        StringBuilder most = new StringBuilder("sea 6;");
        most.append("current 0 1 takes 9;".repeat(10)).append("person;".repeat(6)).append("shell 5;".repeat(8)).append("hour 999;gale 99;");
        HallShells x = of(most.toString());
        for (int w = 0; w < 8; w++) {
            x.whisper(0);
        }
        x.seed(1);
        x.seed(1);
        for (int i = 0; i < 45; i++) {
            x.feed(0, 0, 0, 0, 0);
        }
        int[] counts = {6, 10, 6, 8, 8, 999, 99, 10, 900, 27};
        for (int what = 0; what < 10; what++) {
            due("most of " + what, x.count(what), counts[what]);
        }
        sentence(49, "NONE for others.");
        bounds("what", what -> x.count(what), 0, 9, NONE);
    }
}
