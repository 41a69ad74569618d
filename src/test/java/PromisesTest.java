/** Each promise of the document by number, with answers that were worked out by hand. */
public final class PromisesTest extends Sheet {
    /** Three beaches in a ring, four people, four shells, a gale for this hour alone. */
    private static final String RING = "sea 3;current 0 1 takes 2;current 1 2 takes 1;current 2 0 takes 3;"
        + "person at 0;person at 2;person;person at 1 deaf;"
        + "shell 1 by 2;shell 2 by 0;shell 0;shell 1 by 3;hour 10;gale 1;";

    public static void main(String[] args) {
        newObject();
        feedsTape();
        readsSea();
        tellsFault();
        tellsCurrent();
        tellsPerson();
        tellsShell();
        tellsWord();
        tellsSound();
        seeds();
        whispers();
        gives();
        lays();
        gales();
        hoursPass();
        undoes();
        judges();
        performs();
        daysPass();
        comesIn();
        hearsIn();
        heard();
        loudest();
        hearers();
        far();
        reaches();
        secret();
        widest();
        shut();
        take();
        needs();
        spies();
        watch();
        hears();
        mutual();
        passes();
        gift();
        fits();
        slips();
        likeliest();
        look();
        unlike();
        pairs();
        numbers();
        writes();
        lists();
        images();
        restores();
        counts();
        end("all promises hold");
    }

    private static void newObject() {
        about("promise 1");
        HallShells x = new HallShells();
        int[] counts = {1, 0, 0, 0, 0, 0, 0, 0, 0, 0};
        for (int i = 0; i < 10; i++) {
            due("count " + i, x.count(i), counts[i]);
        }
        due("sound", x.sound(0, 0), 0);
        due("gale", x.gale(2), 0);
        due("sound in a gale", x.sound(0, 1), 1);
        due("sound behind it", x.sound(0, 2), 0);
        due("whisper", x.whisper(0), 0);
        due("NONE", NONE, -1);
    }

    private static void feedsTape() {
        about("promise 2");
        HallShells x = new HallShells();
        for (int i = 1; i <= 45; i++) {
            due("feed " + i, x.feed(0, -1, i, 0, 0), 20 * i);
        }
        due("feed 46", x.feed(0, 0, 0, 0, 0), -5);
        due("bytes", x.count(8), 900);
        due("sea(901)", x.sea(901), -3);
        due("sea(900)", x.sea(900), -31);
        due("behind it", x.feed(0x73656120, 0x343b2020, 0, 0, 0), 20);
        due("the highest byte first", x.sea(6), 1);
        due("beaches", x.count(0), 4);
    }

    private static void readsSea() {
        about("promise 3");
        HallShells x = of("sea 2;person at 1;shell 0 by 0;hour 7;gale 3;");
        due("x", x.seed(5), 0);
        due("whisper", x.whisper(0), 0);
        feed(x, "sea 3;");
        due("n below 0", x.sea(-1), -3);
        due("n above the tape", x.sea(21), -3);
        due("the tape stays", x.count(8), 20);
        due("a fault", x.sea(5), -32);
        due("the tape is empty", x.count(8), 0);
        due("the sea stays", x.count(0), 2);
        due("words stay", x.count(4), 1);
        due("hour stays", x.count(5), 7);
        due("undone stays", x.count(7), 2);
        due("lines stay", x.count(9), 5);
        due("x stays", x.seed(6), 5);
        feed(x, "sea 3;sea 2;");
        due("the first n bytes alone", x.sea(6), 1);
        due("beaches", x.count(0), 3);
        due("no words", x.count(4), 0);
        due("hour", x.count(5), 0);
        due("gale", x.count(6), 0);
        due("nothing to undo", x.count(7), 0);
        due("people", x.count(2), 0);
        due("x is 0", x.seed(1), 0);
        due("no text", x.sea(0), -32);
        due("its place", x.fault(1), 0);
        x = of("sea 2;hour 3;hour 4;gale 1;gale 2;person at 0 at 1;sounds:1;sounds:2;open:1=1;open:1=0;listens:1=1;listens:1=0;current 0 1 takes 1;");
        due("later hour strikes", x.count(5), 4);
        due("later gale strikes", x.count(6), 2);
        due("later at strikes", x.person(0, 0), 1);
        due("later sounds strikes", x.sound(0, 0), 2);
        due("later open strikes", x.current(0, 3), 0);
        due("later listens strikes", x.person(0, 4), 0);
    }

    private static void tellsFault() {
        about("promise 4");
        HallShells x = new HallShells();
        due("none read", x.fault(0), 0);
        due("none read", x.fault(1), NONE);
        feed(x, "sea 9;");
        due("sea", x.sea(6), -33);
        due("fault", x.fault(0), 3);
        due("place", x.fault(1), 4);
        due("others", x.fault(2), NONE);
        due("others", x.fault(-1), NONE);
        due("not read", x.sea(1), -3);
        due("the latest that was read", x.fault(0), 3);
        feed(x, "sea 6;");
        due("sea", x.sea(6), 1);
        due("no fault", x.fault(0), 0);
        due("no place", x.fault(1), NONE);
    }

    private static void tellsCurrent() {
        about("promise 5");
        HallShells x = of(RING);
        due("from", x.current(2, 0), 2);
        due("to", x.current(2, 1), 0);
        due("takes", x.current(2, 2), 3);
        due("shut by a gale", x.current(2, 3), 0);
        x.hours(1);
        due("open", x.current(2, 3), 1);
        due("no such what", x.current(2, 4), -2);
        due("no such what", x.current(2, -1), -2);
        due("no such current", x.current(3, 0), -2);
        due("no such current", x.current(-1, 0), -2);
        x = of("sea 3;current 0 1 takes 2;current 1 2 takes 5;open: from = 0 and hour < 6 or to = 2 and takes = 5 and gale = 1;hour 29;");
        due("hour modulo 24", x.current(0, 3), 1);
        due("no gale", x.current(1, 3), 0);
        x.gale(1);
        due("a gale", x.current(1, 3), 1);
        x.hours(1);
        due("hour 30", x.current(0, 3), 0);
    }

    private static void tellsPerson() {
        about("promise 6");
        HallShells x = of(RING);
        due("beach", x.person(1, 0), 2);
        due("inland", x.person(2, 0), NONE);
        due("not deaf", x.person(1, 1), 0);
        due("deaf", x.person(3, 1), 1);
        due("shells", x.person(0, 3), 2);
        x.give(0, 0);
        x.give(2, 0);
        due("shells", x.person(0, 3), 7);
        due("heard none", x.person(0, 2), 0);
        x.whisper(1);
        x.whisper(0);
        x.hours(1);
        due("heard both", x.person(0, 2), 3);
        due("listens", x.person(2, 4), 1);
        due("deaf", x.person(3, 4), 0);
        due("what", x.person(0, 5), -2);
        due("what", x.person(0, -1), -2);
        due("who", x.person(4, 0), -2);
        due("who", x.person(-1, 0), -2);
        x = of("sea 2;person;person at 1;listens: home = 6 and words = 0 or who = 1 and hour = 3;shell 0 by 0;");
        due("home of one inland", x.person(0, 4), 1);
        due("who, hour", x.person(1, 4), 0);
        x.whisper(0);
        x.hours(3);
        due("words", x.person(0, 4), 0);
        due("who, hour", x.person(1, 4), 1);
        x = of("sea 1;person at 0;listens: gale = 1 or words > 6 and hour - hour * hour = 0 or words = 0;");
        x.hours(1);
        due("words 0", x.person(0, 4), 1);
        for (int w = 0; w < 7; w++) {
            x.whisper(0);
        }
        x.hours(23);
        due("words 7, hour 0", x.person(0, 4), 1);
        x.hours(2);
        due("words 7, hour 2", x.person(0, 4), 0);
        x.gale(1);
        due("a gale", x.person(0, 4), 1);
        x.whisper(0);
        due("not in hour 3", x.hours(1), 0);
        x.gale(2);
        due("in the gale", x.hours(1), 1);
        x.gale(0);
        due("words 8, hour 4", x.person(0, 4), 0);
        x.hours(20);
        due("words 8, hour 0", x.person(0, 4), 1);
    }

    private static void tellsShell() {
        about("promise 7");
        HallShells x = of(RING);
        due("from", x.shell(1, 0), 2);
        due("by", x.shell(1, 1), 0);
        due("nobody", x.shell(2, 1), NONE);
        due("what", x.shell(0, 2), -2);
        due("what", x.shell(0, -1), -2);
        due("shell", x.shell(4, 0), -2);
        due("shell", x.shell(-1, 0), -2);
        x.give(2, 3);
        due("given", x.shell(2, 1), 3);
    }

    private static void tellsWord() {
        about("promise 8");
        HallShells x = of("sea 3;current 0 1 takes 2;current 0 2 takes 1;current 1 0 takes 1;person at 2;");
        due("none", x.word(0, 0), -2);
        x.whisper(0);
        due("there at once", x.word(0, 0), 1);
        due("not under way", x.word(0, 1), 0);
        due("not heard", x.word(0, 2), 0);
        x.hours(1);
        due("came in at 2", x.word(0, 0), 5);
        due("under way", x.word(0, 1), 1);
        due("heard", x.word(0, 2), 1);
        x.hours(1);
        due("came in at 1, stays at 0", x.word(0, 0), 7);
        due("goes by none twice", x.word(0, 1), 0);
        x.hours(1);
        due("back to 0 at once", x.word(0, 1), 0);
        due("what", x.word(0, 3), -2);
        due("what", x.word(0, -1), -2);
        due("word", x.word(1, 0), -2);
        due("word", x.word(-1, 0), -2);
    }

    private static void tellsSound() {
        about("promise 9");
        HallShells x = of(RING);
        due("in the gale", x.sound(2, 0), 21);
        due("behind it", x.sound(2, 999), 20);
        due("beach", x.sound(3, 0), -2);
        due("beach", x.sound(-1, 1000), -2);
        due("n", x.sound(0, 1000), -3);
        due("n", x.sound(0, -1), -3);
        x = of("sea 2;hour 23;gale 2;sounds: 10 - 3 - 2 + beach * 2 * (1 + 4) + gale * 30 + hour;");
        due("from left to right", x.sound(0, 0), 58);
        due("beach 1", x.sound(1, 1), 45);
        due("no gale", x.sound(1, 2), 16);
        x = of("sea 2;sounds: beach * 200 - 50;");
        due("0 at least", x.sound(0, 0), 0);
        due("99 at most", x.sound(1, 0), 99);
        x = of("sea 1;sounds: 999*999*999 - 999*999 - 1;");
        due("a product is kept", x.sound(0, 0), 99);
        x = of("sea 1;sounds: 999*999*999 - 999*999 - 990 - 990;");
        due("1000000 - 998001 - 1980", x.sound(0, 0), 19);
        x = of("sea 1;sounds: 0 - 999*999 - 999*999 + 999*999 + 999 + 999 + 11;");
        due("-1000000 + 998001 + 2009", x.sound(0, 0), 10);
        x = of("sea 1;sounds: 999*999 + 999*999 - 999*999 - 999 - 999;");
        due("1000000 - 998001 - 1998", x.sound(0, 0), 1);
    }

    private static void seeds() {
        about("promise 10");
        HallShells x = new HallShells();
        due("at first", x.seed(-7), 0);
        due("again", x.seed(8), -7);
        due("can be undone", x.count(7), 2);
        due("undo", x.undo(1), 1);
        due("was", x.seed(0), -7);
    }

    private static void whispers() {
        about("promise 11");
        HallShells x = of(RING);
        for (int w = 0; w < 8; w++) {
            due("whisper", x.whisper(w % 3), w);
        }
        due("no such beach", x.whisper(3), -11);
        due("no such beach", x.whisper(-1), -11);
        due("no such beach", x.whisper(2000), -11);
        due("8 words", x.whisper(0), -12);
        due("undone", x.count(7), 8);
        due("words", x.count(4), 8);
        due("where", x.word(5, 0), 4);
    }

    private static void gives() {
        about("promise 12");
        HallShells x = of(RING);
        due("nobody held it", x.give(2, 1), NONE);
        due("1 held it", x.give(2, 1), 1);
        due("also to whoever holds it", x.count(7), 2);
        due("shell", x.give(4, 0), -11);
        due("shell", x.give(-1, 0), -11);
        due("person", x.give(0, 4), -11);
        due("person", x.give(0, -1), -11);
        due("refused", x.count(7), 2);
        due("by", x.shell(2, 1), 1);
    }

    private static void lays() {
        about("promise 13");
        HallShells x = of(RING);
        due("2 held it", x.lay(0), 2);
        due("nobody", x.shell(0, 1), NONE);
        due("nobody holds it", x.lay(0), -12);
        due("shell", x.lay(4), -11);
        due("shell", x.lay(-1), -11);
        due("undone", x.count(7), 1);
    }

    private static void gales() {
        about("promise 14");
        HallShells x = of(RING);
        due("it blew 1", x.gale(99), 1);
        due("n", x.gale(100), -3);
        due("n", x.gale(-1), -3);
        due("blows", x.count(6), 99);
        x.hours(9);
        due("90 still", x.gale(0), 90);
        due("none", x.count(6), 0);
        due("none", x.sound(0, 0), 0);
        due("also none", x.gale(0), 0);
        due("undone", x.count(7), 4);
    }

    private static void hoursPass() {
        about("promise 15");
        HallShells x = of(RING);
        x.whisper(0);
        x.whisper(1);
        // 0 hears word 0, 2 hears word 1 by its shell; the gale holds both words back.
        due("one hour", x.hours(1), 2);
        due("hour", x.count(5), 11);
        due("gale", x.count(6), 0);
        due("not under way", x.word(0, 1), 0);
        // Word 1 comes to 2: 1 lives there, 0 has a shell from there.
        due("second hour", x.hours(1), 2);
        due("under way", x.word(0, 1), 1);
        // Word 0 comes to 1: 2 hears it.
        due("third hour", x.hours(1), 1);
        // Word 0 comes to 2: 1 hears it; all have heard what they can.
        due("many hours", x.hours(48), 1);
        due("hour", x.count(5), 61);
        due("n", x.hours(0), -3);
        due("n", x.hours(49), -3);
        x = of("sea 1;person at 0;listens: words < 1;");
        x.whisper(0);
        x.whisper(0);
        due("all words at once", x.hours(2), 2);
        x.whisper(0);
        due("none then", x.hours(2), 0);
        x = of("sea 2;current 0 1 takes 1;current 0 1 takes 2;open: hour = 1;listens: hour = 2;person at 1;");
        x.whisper(0);
        due("shut in hour 0", x.hours(1), 0);
        due("open in hour 1, heard in hour 2", x.hours(1), 1);
        due("the other one is under way", x.word(0, 1), 1);
        x = of("sea 1;person at 0;gale 1;listens: gale = 1;");
        x.whisper(0);
        due("the gale is over when it listens", x.hours(1), 0);
    }

    private static void undoes() {
        about("promise 16");
        HallShells x = of(RING);
        x.whisper(0);
        x.give(2, 1);
        x.gale(5);
        x.hours(7);
        x.seed(9);
        due("n", x.undo(0), -3);
        due("n", x.undo(11), -3);
        due("more than can be", x.undo(6), -3);
        due("two", x.undo(2), 3);
        due("hour", x.count(5), 10);
        due("gale", x.count(6), 5);
        due("heard", x.word(0, 2), 0);
        due("x", x.seed(1), 0);
        due("two", x.undo(2), 2);
        due("gale", x.count(6), 1);
        due("shell", x.shell(2, 1), 1);
        due("two", x.undo(2), 0);
        due("shell", x.shell(2, 1), NONE);
        due("words", x.count(4), 0);
        for (int i = 0; i < 12; i++) {
            x.seed(i + 100);
        }
        due("10 at most", x.count(7), 10);
        due("all", x.undo(10), 0);
        due("the eldest are forgotten", x.seed(0), 101);
        due("one", x.undo(1), 0);
        due("none", x.undo(1), -3);
    }

    private static void judges() {
        about("promise 17");
        HallShells x = of("sea 2;current 0 1 takes 1;person at 1;person at 0;shell 0;hour 5;");
        due("missing", x.judge(0, 0), -6);
        fill(x, 0, 1, 0, -1, 1, 2003, -1, 100, 1000, 1000, 5);
        due("place", x.judge(0, 0), 7);
        due("why", x.judge(0, 1), 2);
        due("hour", x.judge(0, 2), 7);
        // Person 0 heard word 0 in hour 6 and word 1 in hour 7; person 1 never heard word 1.
        due("all words", x.judge(0, 3), 1);
        due("nothing is done", x.count(4), 0);
        due("nothing is done", x.count(5), 5);
        due("nothing is done", x.count(7), 0);
        due("tray", x.judge(4, 0), -2);
        due("tray", x.judge(-1, 0), -2);
        due("what", x.judge(0, 4), -2);
        due("what ahead of missing", x.judge(1, -1), -2);
        fill(x, 1, 3);
        due("no deeds", x.judge(1, 0), NONE);
        due("no deeds", x.judge(1, 1), 0);
        due("no deeds", x.judge(1, 2), 5);
        due("without words all people", x.judge(1, 3), 3);
        long[] never = {2, 99, 101 + 1, 200, 899, 900, 999, 1001, 1099, 1100, 1999, 2100, -2, 1L << 32, Long.MIN_VALUE};
        for (long v : never) {
            fill(x, 2, 3, -1, v);
            due("place of " + v, x.judge(2, 0), 1);
            due("why not " + v, x.judge(2, 1), 1);
            due("hour at " + v, x.judge(2, 2), 6);
        }
        long[] can = {0, 1, 100, 101, 2000, 2099, -1};
        for (long v : can) {
            fill(x, 2, 3, v);
            due("place of " + v, x.judge(2, 0), NONE);
            due("why " + v, x.judge(2, 1), 0);
        }
        fill(x, 2, 1, 0, 0, 0, 0, 0, 0, 0, 0, 1, 0);
        due("8 words", x.judge(2, 0), 8);
        due("8 words", x.judge(2, 1), 2);
        fill(x, 2, 1, 1000);
        due("nobody holds it", x.judge(2, 1), 2);
    }

    private static void performs() {
        about("promise 18");
        HallShells x = of("sea 2;current 0 1 takes 1;person at 1;person at 0;shell 0;hour 5;");
        due("missing", x.perform(0), -6);
        due("tray", x.perform(4), -2);
        due("tray", x.perform(-1), -2);
        fill(x, 0, 1, 0, -1, 1, 2003, -1, 100, 1000, 1000, 5);
        due("till one can't be", x.perform(0), 7);
        due("words", x.count(4), 2);
        due("hour", x.count(5), 7);
        due("gale", x.count(6), 2);
        due("as one call", x.count(7), 1);
        due("undo", x.undo(1), 0);
        due("words", x.count(4), 0);
        due("hour", x.count(5), 5);
        fill(x, 1, 0, 99);
        due("none", x.perform(1), 0);
        due("none to undo", x.count(7), 0);
        fill(x, 1, 0, 0, 1);
        due("all", x.perform(1), 2);
    }

    private static void daysPass() {
        about("promise 19");
        HallShells x = of("sea 2;person at 1;person;shell 0;shell 1;");
        due("times", x.days(1, 0), -3);
        due("times", x.days(1, 31), -3);
        int seed = 4;
        int drawn = seed;
        int[] draws = new int[200];
        int next = 0;
        for (int i = 0; i < draws.length; i++) {
            drawn = 1103515245 * drawn + 12345;
            draws[i] = drawn >>> 16;
        }
        int hour = 0;
        int words = 0;
        int gale = 0;
        int could = 0;
        int[] holder = {NONE, NONE};
        for (int i = 0; i < 30; i++) {
            int kind = draws[next++] % 5;
            if (kind < 2) {
                hour++;
                gale = Math.max(0, gale - 1);
                could++;
            } else if (kind == 2) {
                next++;
                could += words < 8 ? 1 : 0;
                words = Math.min(8, words + 1);
            } else if (kind == 3) {
                int k = draws[next++] % 2;
                holder[k] = draws[next++] % 2;
                could++;
            } else {
                gale = draws[next++] % 6;
                could++;
            }
        }
        due("days", x.days(seed, 30), could);
        due("hour", x.count(5), hour);
        due("gale", x.count(6), gale);
        due("words", x.count(4), words);
        due("shell 0", x.shell(0, 1), holder[0]);
        due("shell 1", x.shell(1, 1), holder[1]);
        int last = seed;
        for (int i = 0; i < next; i++) {
            last = 1103515245 * last + 12345;
        }
        due("x", x.seed(0), last);
        due("undo", x.undo(2), 0);
        due("hour", x.count(5), 0);
        due("x", x.seed(0), 0);
        x = of("sea 2;");
        int three = 0;
        while ((1103515245 * three + 12345 >>> 16) % 5 != 3) {
            three++;
        }
        due("x", x.seed(77), 0);
        due("3 is nothing without shells", x.days(three, 1), 0);
        due("nothing changes", x.seed(0), 77);
        due("nothing to undo", x.count(7), 2);
    }

    private static void comesIn() {
        about("promise 20");
        HallShells x = of(RING + "hour 0;");
        x.whisper(0);
        due("there", x.comesIn(0, 0), 0);
        due("shut for an hour, takes 2", x.comesIn(0, 1), 3);
        due("1 more", x.comesIn(0, 2), 4);
        x.hours(3);
        due("it is there", x.comesIn(0, 1), 0);
        due("word", x.comesIn(1, 0), -2);
        due("word", x.comesIn(-1, 0), -2);
        due("beach", x.comesIn(0, 3), -2);
        due("beach", x.comesIn(0, -1), -2);
        x = of("sea 2;current 0 1 takes 9;gale 90;");
        x.whisper(1);
        x.whisper(0);
        due("no current back", x.comesIn(0, 0), NONE);
        due("in 99 hours", x.comesIn(1, 1), 99);
        x.gale(91);
        due("in 100", x.comesIn(1, 1), NONE);
    }

    private static void hearsIn() {
        about("promise 21");
        HallShells x = of(RING);
        x.whisper(0);
        due("in an hour", x.hearsIn(0, 0), 1);
        due("by a shell", x.hearsIn(0, 2), 3);
        due("at home", x.hearsIn(0, 1), 4);
        due("deaf", x.hearsIn(0, 3), NONE);
        x.hours(1);
        due("it did", x.hearsIn(0, 0), 0);
        due("word", x.hearsIn(1, 0), -2);
        due("person", x.hearsIn(0, 4), -2);
        due("person", x.hearsIn(0, -1), -2);
        x = of("sea 1;person at 0;listens: words = 1 or hour = 5;");
        x.whisper(0);
        x.hours(5);
        x.whisper(0);
        due("it listens having heard one", x.hearsIn(1, 0), 1);
        x.hours(1);
        x.whisper(0);
        due("not having heard two, but in hour 5", x.hearsIn(2, 0), 23);
        x = of("sea 1;person at 0;listens: hour = 4;hour 5;");
        x.whisper(0);
        due("the next day", x.hearsIn(0, 0), 23);
        x = of("sea 2;current 0 1 takes 9;person at 1;gale 90;");
        x.whisper(0);
        due("in 99 hours", x.hearsIn(0, 0), 99);
        x.gale(91);
        due("in 100", x.hearsIn(0, 0), NONE);
    }

    private static void heard() {
        about("promise 22");
        HallShells x = of(RING);
        due("word", x.heard(0, 0), -2);
        x.whisper(0);
        due("now", x.heard(0, 0), 0);
        due("1", x.heard(0, 1), 1);
        due("3", x.heard(0, 3), 5);
        due("4", x.heard(0, 4), 7);
        due("99", x.heard(0, 99), 7);
        due("n", x.heard(0, 100), -3);
        due("n", x.heard(0, -1), -3);
        due("word first", x.heard(1, -1), -2);
        due("nothing passed", x.count(5), 10);
    }

    private static void loudest() {
        about("promise 23");
        HallShells x = of(RING);
        due("no words", x.loudest(0), NONE);
        due("n ahead of NONE", x.loudest(100), -3);
        x.whisper(1);
        x.whisper(0);
        x.whisper(2);
        due("none heard: the first", x.loudest(0), 0);
        due("2 is heard by 0 and 1", x.loudest(1), 2);
        due("0 is heard by 0, 1, 2", x.loudest(2), 0);
        due("all alike", x.loudest(99), 0);
        due("n", x.loudest(-1), -3);
    }

    private static void hearers() {
        about("promise 24");
        HallShells x = of(RING);
        x.whisper(0);
        due("0", x.hearers(0, 0, 0), 0);
        due("1", x.hearers(0, 0, 1), 1);
        due("3", x.hearers(0, 0, 3), 5);
        due("no gale in an hour", x.hearers(0, 1, 2), 5);
        due("48", x.hearers(2, 23, 48), 7);
        due("w", x.hearers(0, 24, 0), -3);
        due("w", x.hearers(0, -1, 0), -3);
        due("n", x.hearers(0, 0, 49), -3);
        due("n", x.hearers(0, 0, -1), -3);
        due("beach", x.hearers(3, 24, 0), -2);
        due("beach", x.hearers(-1, 0, 0), -2);
        x = of("sea 1;person at 0;listens: words = 0;");
        x.whisper(0);
        x.hours(1);
        due("listens no more", x.person(0, 4), 0);
        due("but nobody having heard any", x.hearers(0, 0, 1), 1);
    }

    private static void far() {
        about("promise 25");
        HallShells x = of(RING);
        due("the same", x.far(1, 1), 0);
        due("0 to 2", x.far(0, 2), 4);
        due("1 to 0", x.far(1, 0), 5);
        due("beach", x.far(3, 0), -2);
        due("beach", x.far(0, 3), -2);
        due("beach", x.far(-1, 0), -2);
        due("beach", x.far(0, -1), -2);
        x = of("sea 2;current 0 1 takes 9;gale 39;");
        due("48", x.far(0, 1), 48);
        due("no way", x.far(1, 0), NONE);
        x.gale(40);
        due("49", x.far(0, 1), NONE);
        x = of("sea 3;current 0 1 takes 1;current 1 2 takes 1;current 0 2 takes 9;open: from = 0 or hour > 11;");
        due("the direct one, as 1 to 2 opens late", x.far(0, 2), 9);
        x = of("sea 3;current 0 1 takes 1;current 1 2 takes 1;current 0 2 takes 9;open: from = 0 or hour > 3;");
        due("waits at 1", x.far(0, 2), 5);
    }

    private static void reaches() {
        about("promise 26");
        HallShells x = of(RING);
        due("there", x.reaches(0, 0), 1);
        due("by a shell", x.reaches(0, 2), 3);
        due("deaf", x.reaches(1, 3), NONE);
        due("beach", x.reaches(3, 0), -2);
        due("beach", x.reaches(-1, 0), -2);
        due("person", x.reaches(0, 4), -2);
        due("person", x.reaches(0, -1), -2);
        x = of("sea 2;current 0 1 takes 9;gale 39;person at 1;");
        due("48", x.reaches(0, 0), 48);
        x.gale(40);
        due("49", x.reaches(0, 0), NONE);
        x = of("sea 1;person at 0;listens: hour = 0;");
        due("it listens now, but hears in a day", x.reaches(0, 0), 24);
    }

    private static void secret() {
        about("promise 27");
        HallShells x = of("sea 3;current 0 1 takes 1;person at 0;person at 1;person at 2;open: hour < 5;hour 1;");
        due("0 alone: when the current is shut", x.secret(1, 10, 0), 4);
        due("0 alone", x.secret(1, 10, 1), 0);
        due("both", x.secret(3, 10, 0), 0);
        due("both", x.secret(3, 10, 1), 0);
        due("1", x.secret(2, 1, 0), 0);
        due("1", x.secret(2, 1, 1), 1);
        due("2", x.secret(4, 48, 1), 2);
        due("no call", x.secret(5, 48, 0), NONE);
        due("no call", x.secret(5, 48, 1), NONE);
        due("within 0 nobody", x.secret(0, 0, 1), 0);
        due("nobody within 1", x.secret(0, 1, 0), NONE);
        due("set", x.secret(8, 1, 0), -3);
        due("set", x.secret(-1, 1, 0), -3);
        due("n", x.secret(0, 49, 0), -3);
        due("n", x.secret(0, -1, 0), -3);
        due("what first", x.secret(8, 1, 2), -2);
        due("what", x.secret(0, 1, -1), -2);
        x = of("sea 2;person at 1;listens: hour = 0;");
        due("at 1 in 23 hours, from 1", x.secret(1, 1, 0), 23);
        due("at 1 in 23 hours, from 1", x.secret(1, 1, 1), 1);
        x.hours(1);
        due("22", x.secret(1, 1, 0), 22);
    }

    private static void widest() {
        about("promise 28");
        HallShells x = of(RING);
        due("0", x.widest(0), 0);
        due("from 2 two hear it", x.widest(1), 2);
        due("from 0 all", x.widest(4), 0);
        due("n", x.widest(49), -3);
        due("n", x.widest(-1), -3);
    }

    private static void shut() {
        about("promise 29");
        String two = "sea 4;current 0 1 takes 1;current 0 2 takes 1;current 1 3 takes 1;current 2 3 takes 2;"
            + "person at 3;person at 0;";
        HallShells x = of(two);
        due("one way in 2 hours", x.shut(0, 0, 2, 0), 1);
        due("the least set", x.shut(0, 0, 2, 1), 1);
        due("two ways in 3", x.shut(0, 0, 3, 0), 2);
        due("the least set: 0 and 1", x.shut(0, 0, 3, 1), 3);
        due("not within 1", x.shut(0, 0, 1, 0), 0);
        due("not within 1", x.shut(0, 0, 1, 1), 0);
        due("at home", x.shut(0, 1, 1, 0), NONE);
        due("at home", x.shut(0, 1, 1, 1), NONE);
        due("beach", x.shut(4, 0, 1, 0), -2);
        due("person", x.shut(0, 2, 1, 0), -2);
        due("what ahead of n", x.shut(0, 0, 49, 2), -2);
        due("n", x.shut(0, 0, 49, 0), -3);
        due("n", x.shut(0, 0, -1, 1), -3);
        x = of(two + "current 0 3 takes 1;shell 2 by 0;");
        due("all of 0, 1, 4", x.shut(0, 0, 48, 1), 19);
        due("all of 0, 1, 4", x.shut(0, 0, 48, 0), 3);
    }

    private static void take() {
        about("promise 30");
        HallShells x = of("sea 3;current 0 1 takes 1;current 1 2 takes 1;person;person at 2;"
            + "shell 0 by 0;shell 1 by 0;shell 1 by 1;shell 2 by 0;shell 0;");
        due("one in 0 hours", x.take(0, 0, 0, 0), 0);
        due("one in an hour, shells 0 and 1", x.take(0, 0, 1, 1), 3);
        due("three in two", x.take(0, 0, 2, 0), 3);
        due("three in two", x.take(0, 0, 2, 1), 11);
        due("person 1", x.take(0, 1, 1, 1), 4);
        due("lives there", x.take(0, 1, 2, 0), NONE);
        due("lives there", x.take(0, 1, 2, 1), NONE);
        due("what", x.take(0, 0, 1, 2), -2);
        due("beach", x.take(3, 0, 1, 0), -2);
        due("person", x.take(0, 2, 1, 0), -2);
        due("person", x.take(0, -1, 99, 0), -2);
        due("n", x.take(0, 0, 49, 0), -3);
        due("n", x.take(0, 0, -1, 0), -3);
    }

    private static void needs() {
        about("promise 31");
        HallShells x = of("sea 4;current 0 1 takes 1;current 0 2 takes 1;current 1 3 takes 1;current 2 3 takes 2;"
            + "person at 3;person at 1;");
        due("within 1: the way to 1", x.needs(0, 1), 1);
        due("within 2: to 1, 1 to 3", x.needs(0, 2), 5);
        due("within 3: 3 has two ways", x.needs(0, 3), 1);
        due("none", x.needs(0, 0), 0);
        due("beach", x.needs(4, 49), -2);
        due("beach", x.needs(-1, 0), -2);
        due("n", x.needs(0, 49), -3);
        due("n", x.needs(0, -1), -3);
    }

    private static void spies() {
        about("promise 32");
        HallShells x = of("sea 4;current 0 1 takes 2;current 1 2 takes 2;current 3 2 takes 2;");
        due("each only itself", x.spies(1, 1, 0), 1);
        due("the least", x.spies(1, 1, 1), 1);
        due("2 from 1, 2, 3", x.spies(1, 2, 0), 3);
        due("2", x.spies(1, 2, 1), 4);
        due("2 and 0 or 1", x.spies(2, 2, 0), 4);
        due("the least set", x.spies(2, 2, 1), 5);
        due("all from 2 in 4", x.spies(1, 4, 0), 4);
        due("all", x.spies(4, 0, 1), 15);
        due("all", x.spies(4, 0, 0), 4);
        due("k", x.spies(0, 0, 0), -3);
        due("k", x.spies(5, 0, 0), -3);
        due("n", x.spies(1, 49, 0), -3);
        due("n", x.spies(1, -1, 0), -3);
        due("what first", x.spies(5, 0, 2), -2);
        due("what", x.spies(1, 0, -1), -2);
    }

    private static void watch() {
        about("promise 33");
        HallShells x = of("sea 4;current 0 1 takes 2;current 1 2 takes 2;current 3 2 takes 2;");
        due("0", x.watch(0), 4);
        due("1", x.watch(1), 4);
        due("2", x.watch(2), 2);
        due("4", x.watch(4), 1);
        due("48", x.watch(48), 1);
        x.gale(48);
        due("in a gale", x.watch(48), 4);
        due("n", x.watch(49), -3);
        due("n", x.watch(-1), -3);
    }

    private static final String TALK = "sea 4;person at 0;person at 0;person at 1;person;person at 2 deaf;person at 3;"
        + "shell 1 by 0;shell 0 by 2;shell 0 by 4;shell 2 by 5;shell 1 by 3;shell 3 by 2;";

    private static void hears() {
        about("promise 34");
        HallShells x = of(TALK);
        due("1 by home, 2 by a shell", x.hears(0), 6);
        due("0 by home", x.hears(1), 1);
        due("0, 1, 5", x.hears(2), 35);
        due("2", x.hears(3), 4);
        due("deaf", x.hears(4), 0);
        due("a deaf one", x.hears(5), 16);
        due("person", x.hears(6), -2);
        due("person", x.hears(-1), -2);
    }

    private static void mutual() {
        about("promise 35");
        HallShells x = of(TALK);
        due("0 1, 0 2", x.mutual(), 2);
        x.give(0, 1);
        due("0 1, 1 2", x.mutual(), 2);
        x.lay(0);
        due("0 1", x.mutual(), 1);
        due("two inland", of("sea 1;person;person;").mutual(), 0);
    }

    private static void passes() {
        about("promise 36");
        HallShells x = of(TALK);
        due("0 hears 1", x.passes(1, 0), 1);
        due("1 to 0 to nobody else: 2 has a shell", x.passes(1, 2), 1);
        due("5 to 2 to 0", x.passes(5, 0), 2);
        due("5 to 2 to 0 to 1", x.passes(5, 1), 3);
        due("4 to 5 to 2 to 0 to 1", x.passes(4, 1), 4);
        due("nobody hears 3", x.passes(3, 0), NONE);
        due("4 hears nobody", x.passes(0, 4), NONE);
        due("one", x.passes(2, 2), -2);
        due("people", x.passes(6, 0), -2);
        due("people", x.passes(0, 6), -2);
        due("people", x.passes(-1, 0), -2);
    }

    private static void gift() {
        about("promise 37");
        HallShells x = of(TALK);
        // Shells 0 and 1 make 0 2 as they are; 2 hears 5 already. Shell 4 (beach 1) to 1 makes 1 2, to 5 it makes 2 5.
        due("shell 4 to 1", x.gift(), 41);
        x.give(4, 1);
        due("0 1, 0 2, 1 2", x.mutual(), 3);
        due("none makes more", of("sea 2;person at 0;person at 0;shell 0;").gift(), NONE);
        due("no shells", of("sea 2;person at 0;person at 1;").gift(), NONE);
        x = of("sea 2;person at 0;person at 1;person at 1;shell 1;shell 0 by 1;shell 1;");
        due("the first", x.gift(), 0);
        x = of("sea 3;person at 0;person at 1;person at 2;person at 2;shell 1;shell 2;shell 0 by 1;shell 0 by 2;shell 0 by 3;");
        due("most: shell 1 makes two", x.gift(), 10);
    }

    private static void fits() {
        about("promise 38");
        HallShells x = of("sea 4;gale 1;sounds: (beach - 1) * hour * 2 + gale * 50;");
        due("missing", x.fits(0), -6);
        due("tray", x.fits(4), -2);
        due("tray", x.fits(-1), -2);
        fill(x, 0, 0, 50);
        due("all sound alike now", x.fits(0), 15);
        fill(x, 0, 0, 50, 0);
        due("0 and 1: none below 0", x.fits(0), 3);
        fill(x, 0, 0, 50, 2);
        due("2", x.fits(0), 4);
        fill(x, 0, 3, -1, -1, 8);
        due("3", x.fits(0), 8);
        fill(x, 0, 3, 1L << 32 | 50);
        due("none", x.fits(0), 0);
        due("0 numbers", x.numbers(0, 0, 0), 0);
        due("0 numbers", x.fits(0), -4);
        due("25 numbers", x.numbers(0, 0, 25), 0);
        due("25 numbers", x.fits(0), -4);
        due("24 numbers", x.numbers(0, 0, 24), 0);
        due("24 numbers", x.fits(0), 0);
    }

    private static void slips() {
        about("promise 39");
        HallShells x = of("sea 2;gale 2;");
        fill(x, 1, 1, 11, 1, -1, 10, 0);
        due("0", x.slips(1, 0), 2);
        due("1", x.slips(1, 1), 2);
        fill(x, 1, 1, 11, 11, -1, 10, 0);
        due("0", x.slips(1, 0), 3);
        due("1", x.slips(1, 1), 1);
        due("beach", x.slips(1, 2), -2);
        due("beach ahead of missing", x.slips(0, -1), -2);
        due("tray", x.slips(4, 0), -2);
        due("missing", x.slips(0, 0), -6);
        x.numbers(0, 0, 40);
        due("40", x.slips(0, 0), -4);
        x.numbers(0, 0, 0);
        due("0", x.slips(0, 0), -4);
    }

    private static void likeliest() {
        about("promise 40");
        HallShells x = of("sea 3;gale 2;");
        fill(x, 1, 1, 11, 1, -1, 10, 0);
        due("0 and 1 alike", x.likeliest(1), 0);
        fill(x, 1, 1, 21, 20, 20, 20);
        due("2", x.likeliest(1), 2);
        fill(x, 1, 1, 97);
        due("none fits", x.likeliest(1), 0);
        due("tray", x.likeliest(9), -2);
        due("missing", x.likeliest(0), -6);
        x.numbers(1, 1, 25);
        due("25", x.likeliest(1), -4);
    }

    private static void look() {
        about("promise 41");
        HallShells x = of("sea 4;hour 20;sounds: (beach - 1) * hour * gale + (beach * beach - beach) * (hour - 21);");
        fill(x, 0, 0, -1);
        // Hour 20: all 0. 21: all 0. 22: 0, 0, 2, 6. 23: 0, 0, 4, 12. Never all apart without a gale.
        due("all", x.look(0), 2);
        x.gale(99);
        // 20: below 0, 0, 20 - 2, 40 - 6; 0 and 1 never apart.
        due("in a gale", x.look(0), 0);
        fill(x, 0, 0, 99);
        due("none fits", x.look(0), NONE);
        x.gale(0);
        fill(x, 0, 0, -1, -1, 2);
        due("one fits", x.look(0), 0);
        due("tray", x.look(-1), -2);
        due("missing", x.look(1), -6);
        x.numbers(1, 0, 30);
        due("30", x.look(1), -4);
        x = of("sea 2;gale 99;sounds: beach * (1 - gale);");
        fill(x, 0, 0, -1);
        due("in 99 hours", x.look(0), 99);
        x.hours(1);
        due("in 98", x.look(0), 98);
    }

    private static void unlike() {
        about("promise 42");
        HallShells x = of("sea 3;hour 5;gale 3;sounds: beach * gale * 10 + (beach - 1) * (hour - 22);");
        due("itself", x.unlike(2, 2), 0);
        // Beaches 1 and 2: apart in the gale's three hours, behind that in hour 23 alone (below 0 is 0).
        due("1 2", x.unlike(1, 2), 4);
        due("2 1", x.unlike(2, 1), 4);
        due("beach", x.unlike(3, 0), -2);
        due("beach", x.unlike(0, 3), -2);
        due("beach", x.unlike(-1, 0), -2);
        due("all day", of("sea 2;").unlike(0, 1), 24);
    }

    private static void pairs() {
        about("promise 43");
        HallShells x = of("sea 3;shell 0;shell 1;shell 0;shell 1;shell 2;");
        due("0 2, 1 3, 4 is left over", x.pairs(0), 0);
        due("0", x.pairs(10), 2);
        due("1", x.pairs(11), 3);
        due("2", x.pairs(12), 0);
        due("3", x.pairs(13), 1);
        due("4", x.pairs(14), NONE);
        due("5", x.pairs(15), -2);
        due("what", x.pairs(9), -2);
        due("what", x.pairs(1), -2);
        due("what", x.pairs(-1), -2);
        x = of("sea 1;shell 0;shell 0;shell 0;");
        due("left over after all partners", x.pairs(10), 1);
        due("left over after all partners", x.pairs(12), NONE);
        x = of("sea 3;shell 0;shell 1;shell 2;shell 2;");
        due("sum", x.pairs(0), 24);
        due("0 1", x.pairs(10), 1);
        x = of("sea 2;shell 0;shell 1;shell 1;");
        due("0 is left over", x.pairs(10), NONE);
        due("1 2", x.pairs(11), 2);
        x = of("sea 3;hour 5;sounds: beach * (hour - 12);shell 0;shell 1;");
        due("hours in which they differ", x.pairs(0), 11);
        due("no shells", new HallShells().pairs(0), 0);
    }

    private static void numbers() {
        about("promise 44");
        HallShells x = new HallShells();
        due("tray", x.numbers(4, 0, 0), -2);
        due("tray", x.numbers(-1, 0, 99), -2);
        due("sort", x.numbers(0, 4, 0), -2);
        due("sort", x.numbers(0, -1, 0), -2);
        due("n", x.numbers(0, 0, -1), -3);
        due("still missing", x.write(0, 0, 1), -6);
        due("40", x.numbers(0, 0, 40), 0);
        due("write", x.write(0, 39, 5), 5);
        due("n", x.numbers(0, 0, 41), -3);
        x.numbers(1, 0, 1);
        due("stays", x.write(0, 38, 1), 1);
        x = of("sea 1;");
        fill(x, 0, 0, -1, 7);
        due("in place of another", x.numbers(0, 0, 1), 0);
        due("all 0", x.fits(0), 1);
    }

    private static void writes() {
        about("promise 45");
        HallShells x = new HallShells();
        long v = 0x123456789abcdef0L;
        for (int sort = 0; sort < 4; sort++) {
            x.numbers(sort, sort, 2);
        }
        due("8 bits", x.write(0, 1, v), (byte) 0xf0);
        due("8 bits", x.write(0, 1, 128), -128);
        due("16 bits", x.write(1, 1, v), (short) 0xdef0);
        due("16 bits", x.write(1, 1, 32768), -32768);
        due("32 bits", x.write(2, 1, v), 0x9abcdef0);
        due("64 bits", x.write(3, 1, v), v);
        due("64 bits", x.write(3, 1, Long.MIN_VALUE), Long.MIN_VALUE);
        due("no such number", x.write(0, 2, v), -7);
        due("no such number", x.write(0, -1, v), -7);
        due("tray", x.write(4, 0, v), -2);
        due("tray", x.write(-1, 0, v), -2);
        due("missing", new HallShells().write(0, -1, v), -6);
    }

    private static void lists() {
        about("promise 46");
        HallShells x = of("sea 3;gale 2;shell 2;shell 1;");
        due("missing", x.lists(0, 0), -6);
        x.numbers(0, 0, 24);
        due("24", x.lists(0, 0), 24);
        due("fits", x.fits(0), 4);
        due("and no others", x.slips(0, 1), 24);
        due("tray", x.lists(4, 0), -2);
        due("shell", x.lists(0, 2), -2);
        due("shell ahead of missing", x.lists(1, -1), -2);
        x.numbers(1, 0, 0);
        due("0", x.lists(1, 0), 0);
        x.numbers(1, 0, 40);
        due("40", x.lists(1, 1), 40);
        x.hours(1);
        due("later", x.fits(0), 0);
        due("later", x.slips(0, 2), 1);
        due("again", x.lists(0, 0), 24);
        due("fits", x.fits(0), 4);
    }

    private static void images() {
        about("promise 47");
        HallShells x = of(RING);
        due("image", x.image(2), -2);
        due("image", x.image(-1), -2);
        x.whisper(0);
        due("made", x.image(1), 0);
        due("nothing changes", x.count(7), 1);
        x.hours(4);
        due("made", x.image(0), 0);
        due("in place of another", x.image(1), 0);
        x.hours(4);
        due("restored", x.restore(1), 0);
        due("hour", x.count(5), 14);
    }

    private static void restores() {
        about("promise 48");
        HallShells x = of("sea 2;current 0 1 takes 3;person at 1;shell 1 by 0;sounds: beach + 5;open: hour > 0;listens: words < 2;hour 3;");
        due("none made", x.restore(0), -5);
        due("image", x.restore(2), -2);
        due("image", x.restore(-1), -2);
        x.whisper(0);
        x.lay(0);
        x.seed(12);
        x.hours(1);
        x.image(0);
        x.hours(5);
        x.give(0, 0);
        x.seed(13);
        feed(x, "sea 3;person;shell 0;");
        x.sea(21);
        x.gale(4);
        x.numbers(2, 2, 2);
        feed(x, "sea 9;");
        due("a fault", x.sea(6), -33);
        feed(x, "sea");
        due("restored", x.restore(0), 0);
        due("nothing to undo", x.count(7), 0);
        due("beaches", x.count(0), 2);
        due("lines", x.count(9), 8);
        due("words", x.count(4), 1);
        due("under way", x.word(0, 1), 1);
        due("not heard", x.word(0, 2), 0);
        due("hour", x.count(5), 4);
        due("gale", x.count(6), 0);
        due("shell", x.shell(0, 1), NONE);
        due("sounds", x.sound(1, 0), 6);
        due("x", x.seed(0), 12);
        due("the word goes on", x.hearsIn(0, 0), 2);
        due("the tape stays", x.count(8), 20);
        due("the fault stays", x.fault(0), 3);
        due("trays stay", x.write(2, 1, 3), 3);
        x.hours(9);
        due("again", x.restore(0), 0);
        due("hour", x.count(5), 4);
    }

    private static void counts() {
        about("promise 49");
        HallShells x = of(RING);
        x.whisper(0);
        feed(x, "sea");
        int[] counts = {3, 3, 4, 4, 1, 10, 1, 1, 20, 14};
        for (int i = 0; i < 10; i++) {
            due("count " + i, x.count(i), counts[i]);
        }
        due("others", x.count(10), NONE);
        due("others", x.count(-1), NONE);
    }
}
