import java.util.Arrays;

/** Sentences of the tape, of what there is, and of what is done: promises 1 to 19, and days by draws. */
final class EdgesOfDeeds extends Edges {
    private static final int TERMS = Document.TERMS;

    private static final String TWO = "sea 2;current 0 1 takes 2;current 1 0 takes 9;person at 0;person;person at 1 deaf;"
        + "shell 1 by 1;shell 0;shell 1 by 2;";

    static void run() {
        newObject();
        feeds();
        seas();
        seasAnew();
        faults();
        currents();
        people();
        shells();
        words();
        sounds();
        seeds();
        whispers();
        gives();
        lays();
        gales();
        hours();
        undoes();
        judges();
        performs();
        daysTerm();
        days();
    }

    private static void newObject() {
        sentence(1, "1 BEACH.");
        HallShells x = new HallShells();
        for (int what = 0; what < 10; what++) {
            due("count " + what, x.count(what), what == 0 ? 1 : 0);
        }
        due("it can be whispered at", x.whisper(0), 0);
        due("no other one", x.whisper(1), -11);
        due("fault", x.fault(0), 0);
        due("place", x.fault(1), NONE);
        due("x", x.seed(1), 0);
        due("sound", x.sound(0, 999), 0);
        due("no images", x.restore(1), -5);
        due("no trays", x.write(3, 0, 0), -6);
        x.gale(1);
        due("sound in a gale", x.sound(0, 0), 1);
        due("sound behind it", x.sound(0, 1), 0);
    }

    private static void feeds() {
        sentence(2, "Twenty bytes come behind those on THE TAPE, the highest of each int first: how many it has.");
        HallShells x = new HallShells();
        due("first", x.feed(0x73656120, 0x343b6761, 0x6c652037, 0x373b686f, 0x75722031), 20);
        due("second", x.feed(0x32333b20, 0x20202020, 0x20202020, 0x20202020, 0x2020203b), 40);
        due("count", x.count(8), 40);
        due("\"sea 4;gale 77;hour 123;\"", x.sea(39), 3);
        due("beaches", x.count(0), 4);
        due("gale", x.count(6), 77);
        due("hour", x.count(5), 123);
        due("bytes above 127", x.feed(0x73656120, 0x343bff00, 0x80000000, -1, 0), 20);
        due("bytes above 127", x.sea(20), -31);
        due("their place", x.fault(1), 6);
        sentence(2, "-5: it would have more than 900.");
        for (int i = 1; i <= 45; i++) {
            due("feed " + i, x.feed(0x73656120, 0x363b2020, 0x20202020, 0x20202020, 0x20202020), 20 * i);
        }
        due("one more", x.feed(0, 0, 0, 0, 0), -5);
        due("again", x.feed(-1, -1, -1, -1, -1), -5);
        due("it has 900", x.count(8), 900);
        due("all of them are as they were", x.sea(900), -32);
        due("the second sea", x.fault(1), 20);
        due("from the beginning", x.feed(0x73656120, 0x363b2020, 0x20202020, 0x20202020, 0x20202020), 20);
        due("as told", x.sea(20), 1);
    }

    private static void seas() {
        sentence(3, "The first n bytes of THE TAPE (which is empty then) are THE SEA, no WORDS, x is 0, nothing can be UNDONE: how many"
            + " LINES (sea, too; all stays with a FAULT).");
        HallShells x = of(TWO);
        x.whisper(1);
        x.seed(9);
        x.gale(3);
        x.give(1, 1);
        x.hours(2);
        feed(x, "sea 3;hour 1;sea 4;");
        due("a fault", x.sea(19), -32);
        due("the tape is empty", x.count(8), 0);
        int[] counts = {2, 2, 3, 3, 1, 2, 1, 5, 0, 9};
        for (int what = 0; what < 10; what++) {
            due("all stays with a fault: " + what, x.count(what), counts[what]);
        }
        due("who heard", x.word(0, 2), 2);
        due("shell", x.shell(1, 1), 1);
        due("x", x.seed(9), 9);
        feed(x, "sea 3;hour 1;sea 4;");
        due("the first 13 bytes", x.sea(13), 2);
        due("the tape is empty", x.count(8), 0);
        int[] then = {3, 0, 0, 0, 0, 1, 0, 0, 0, 2};
        for (int what = 0; what < 10; what++) {
            due("of the new sea: " + what, x.count(what), then[what]);
        }
        due("nothing can be undone", x.undo(1), -3);
        due("x is 0", x.seed(0), 0);
        feed(x, "sea 6;");
        due("0 bytes are no sea", x.sea(0), -32);
        due("their fault is at 0", x.fault(1), 0);
        due("the tape is empty", x.count(8), 0);
        sentence(3, "-3: n is below 0 or above what there is (THE TAPE stays); -30 less the FAULT.");
        due("above an empty tape", x.sea(1), -3);
        feed(x, "sea 6;");
        bounds("n", n -> n == 0 || n == 20 ? 0 : x.sea(n), 0, 20, -3);
        due("the tape stays", x.count(8), 20);
        due("all of it", x.sea(20), 1);
        due("beaches", x.count(0), 6);
        String[] texts = {"sea 1;!", "sea 1;sea 1;", "sea 7;", "sea 1;sounds:(((((((1"};
        for (int fault = 1; fault <= 4; fault++) {
            feed(x, texts[fault - 1]);
            due(texts[fault - 1], x.sea(texts[fault - 1].length()), -30 - fault);
        }
    }

    /** What was told of one sea is gone in the next. */
    private static void seasAnew() {
        sentence(3, "The first n bytes of THE TAPE (which is empty then) are THE SEA, no WORDS, x is 0, nothing can be UNDONE: how many"
            + " LINES (sea, too; all stays with a FAULT).");
        HallShells x = of("sea 2;gale 5;hour 6;current 0 1 takes 3;person at 1 deaf;person deaf;shell 1 by 0;"
            + "sounds: 7;open: 1 = 0;listens: 1 = 0;");
        due("sound", x.sound(1, 0), 7);
        due("open", x.current(0, 3), 0);
        due("listens", x.person(1, 4), 0);
        x.whisper(0);
        x.hours(9);
        feed(x, "sea 2;current 0 1 takes 1;person at 1;person;shell 0 by 1;");
        due("lines", x.sea(58), 5);
        due("sound without a law", x.sound(1, 0), 10);
        due("open without a law", x.current(0, 3), 1);
        due("not deaf", x.person(0, 1), 0);
        due("listens without a law", x.person(1, 4), 1);
        due("currents", x.count(1), 1);
        due("shells", x.count(3), 1);
        due("by", x.shell(0, 1), 1);
        due("hour", x.count(5), 0);
        due("gale", x.count(6), 0);
        due("a word", x.whisper(0), 0);
        due("not under way", x.word(0, 1), 0);
        due("heard by nobody", x.word(0, 2), 0);
        due("heard by both", x.hours(1), 2);
        feed(x, "sea 2;sounds: hour;current 0 1 takes 1;open: hour = 1;person;listens: hour = 1;");
        due("lines", x.sea(79), 6);
        due("other laws", x.sound(1, 3), 3);
        due("other laws", x.current(0, 3), 0);
        due("other laws", x.person(0, 4), 0);
        due("nobody heard anything", x.person(0, 2), 0);
        feed(x, "sea 2;sounds: 9;person;person deaf;gale 100;");
        due("a fault far on", x.sea(44), -33);
        due("the laws stay", x.sound(1, 3), 3);
        due("the people stay", x.count(2), 1);
        seasInTheSameHour();
        longLawsAgain();
        shorterLaw();
    }

    /** Of a longer law told before nothing is left. */
    private static void shorterLaw() {
        HallShells x = new HallShells();
        tell(x, "sea 2;current 0 1 takes 1;open: not 1 = 1;", 3);
        due("shut", x.current(0, 3), 0);
        tell(x, "sea 2;current 0 1 takes 1;open: 1 = 1;", 3);
        due("open", x.current(0, 3), 1);
        tell(x, "sea 2;sounds: 7 * 8 * 9;", 2);
        tell(x, "sea 2;sounds: 7;", 2);
        due("sound", x.sound(0, 0), 7);
    }

    private static void tell(HallShells x, String text, int lines) {
        feed(x, text);
        due("sea of " + text, x.sea(text.length()), lines);
    }

    /** Hour and gale are as they were in the sea before, the laws are not; nor are words on their way. */
    private static void seasInTheSameHour() {
        HallShells x = new HallShells();
        int[] open = {1, 0, 1};
        String[] laws = {"", "sounds: 3;open: 1 = 0;listens: 1 = 0;", "sounds: 4;open: 1 = 1;listens: 1 = 1;"};
        int[] sound = {10, 3, 4};
        for (int i = 0; i < 6; i++) {
            tell(x, "sea 2;current 0 1 takes 2;person at 0;" + laws[i % 3], i % 3 == 0 ? 3 : 6);
            due("sound", x.sound(1, 0), sound[i % 3]);
            due("open", x.current(0, 3), open[i % 3]);
            due("listens", x.person(0, 4), open[i % 3]);
            x.whisper(0);
            due("not under way", x.word(0, 1), 0);
            due("far", x.far(0, 1), open[i % 3] == 1 ? 2 : NONE);
            due("heard", x.hours(1), open[i % 3]);
            due("under way", x.word(0, 1), open[i % 3]);
            x.hours(2);
            due("came in", x.word(0, 0), open[i % 3] == 1 ? 3 : 1);
            due("not under way", x.word(0, 1), 0);
        }
        String slow = "sea 2;current 0 1 takes 9;";
        tell(x, slow, 2);
        x.whisper(0);
        x.hours(1);
        due("under way", x.word(0, 1), 1);
        tell(x, slow, 2);
        x.whisper(0);
        due("not under way at once", x.word(0, 1), 0);
        due("nine hours from now", x.comesIn(0, 1), 9);
    }

    /** What an earlier text took leaves as much room for the next. */
    private static void longLawsAgain() {
        HallShells x = new HallShells();
        for (int i = 1; i <= 5; i++) {
            tell(x, "sea 1;sounds:" + "0+".repeat(442) + i + ";", 2);
            due("the last number of the law", x.sound(0, 0), i);
        }
    }

    private static void faults() {
        sentence(4, "Of the latest sea() that was read, what 0: its FAULT (0), 1: its place (NONE).");
        HallShells x = new HallShells();
        due("none was read", x.fault(0), 0);
        due("none was read", x.fault(1), NONE);
        feed(x, "sea 2;hour 1000;");
        x.sea(16);
        due("fault", x.fault(0), 1);
        due("place", x.fault(1), 11);
        x.sea(1);
        x.sea(-1);
        due("a refused one isn't read", x.fault(0), 1);
        due("a refused one isn't read", x.fault(1), 11);
        x.whisper(0);
        x.image(0);
        x.restore(0);
        due("it stays", x.fault(0), 1);
        feed(x, "sea 2;");
        x.sea(6);
        due("none", x.fault(0), 0);
        due("none", x.fault(1), NONE);
        sentence(4, "NONE for others.");
        x.sea(0);
        bounds("what", what -> x.fault(what), 0, 1, NONE);
        due("2", x.fault(2), NONE);
    }

    private static void currents() {
        sentence(5, "Of a current, what 0: from, 1: to, 2: HOURS it takes, 3: 1 if it is OPEN now, else 0.");
        HallShells x = of(TWO);
        due("from", x.current(1, 0), 1);
        due("to", x.current(1, 1), 0);
        due("takes", x.current(1, 2), 9);
        due("open", x.current(1, 3), 1);
        x.gale(1);
        due("shut", x.current(1, 3), 0);
        x.hours(1);
        due("open again", x.current(1, 3), 1);
        sentence(5, "-2.");
        bounds("current", k -> x.current(k, 0), 0, 1, -2);
        bounds("what", what -> x.current(0, what), 0, 3, -2);
    }

    private static void people() {
        sentence(6, "Of a person, what 0: BEACH (NONE: inland), 1: 1 if deaf, else 0, 2: WORDS it HEARD, as bits, 3: shells it holds, as bits,"
            + " 4: 1 if it LISTENS now, else 0.");
        HallShells x = of("sea 2;person at 1;person;person at 0 deaf;shell 1;shell 0;shell 0;shell 0;shell 0;shell 0;shell 0;shell 1 by 0;"
            + "listens: words < 8;");
        due("beach", x.person(0, 0), 1);
        due("inland", x.person(1, 0), NONE);
        due("not deaf", x.person(0, 1), 0);
        due("deaf", x.person(2, 1), 1);
        due("shells", x.person(0, 3), 128);
        due("no shells", x.person(1, 3), 0);
        for (int k = 0; k < 8; k++) {
            x.give(k, 1);
            x.whisper(1);
        }
        due("all shells", x.person(1, 3), 255);
        due("none then", x.person(0, 3), 0);
        due("no words", x.person(1, 2), 0);
        due("listens", x.person(1, 4), 1);
        x.hours(1);
        due("all words", x.person(1, 2), 255);
        due("listens no more", x.person(1, 4), 0);
        due("deaf", x.person(2, 4), 0);
        due("nothing", x.person(2, 2), 0);
        sentence(6, "-2.");
        bounds("person", p -> x.person(p, 0), 0, 2, -2);
        bounds("what", what -> x.person(0, what), 0, 4, -2);
    }

    private static void shells() {
        sentence(7, "Of a shell, what 0: the BEACH it is from, 1: who holds it (NONE).");
        HallShells x = of(TWO);
        due("from", x.shell(0, 0), 1);
        due("by", x.shell(0, 1), 1);
        due("nobody", x.shell(1, 1), NONE);
        x.give(1, 2);
        due("given", x.shell(1, 1), 2);
        x.lay(0);
        due("laid down", x.shell(0, 1), NONE);
        due("still from there", x.shell(0, 0), 1);
        sentence(7, "-2.");
        bounds("shell", k -> x.shell(k, 0), 0, 2, -2);
        bounds("what", what -> x.shell(0, what), 0, 1, -2);
    }

    private static void words() {
        sentence(8, "Of a WORD, what 0: BEACHES where it is, as bits, 1: by how many currents it is under way, 2: who HEARD it, as bits.");
        StringBuilder ten = new StringBuilder("sea 6;person at 5;person at 0;");
        for (int k = 0; k < 10; k++) {
            ten.append("current 0 ").append(1 + k % 5).append(" takes ").append(2 + k / 5).append(";");
        }
        HallShells x = of(ten.toString());
        x.whisper(0);
        due("where", x.word(0, 0), 1);
        due("not under way", x.word(0, 1), 0);
        due("not heard", x.word(0, 2), 0);
        x.hours(1);
        due("by all ten", x.word(0, 1), 10);
        due("heard", x.word(0, 2), 2);
        x.hours(1);
        due("five came in", x.word(0, 1), 5);
        due("everywhere", x.word(0, 0), 63);
        due("heard", x.word(0, 2), 3);
        x.hours(1);
        due("all came in", x.word(0, 1), 0);
        sentence(8, "-2.");
        bounds("word", w -> x.word(w, 0), 0, 0, -2);
        bounds("what", what -> x.word(0, what), 0, 2, -2);
        due("no words", new HallShells().word(0, 0), -2);
    }

    private static void sounds() {
        sentence(9, "SOUND of a BEACH in n HOURS (0 to 999).");
        HallShells x = of("sea 2;hour 5;gale 99;sounds: hour + beach * 24 + gale * 50;");
        due("0", x.sound(1, 0), 79);
        due("98", x.sound(1, 98), 24 + (5 + 98) % 24 + 50);
        due("99", x.sound(1, 99), 24 + (5 + 99) % 24);
        due("999", x.sound(0, 999), 20);
        sentence(9, "-2; -3.");
        bounds("beach", b -> x.sound(b, 0), 0, 1, -2);
        bounds("hours", n -> x.sound(0, n), 0, 999, -3);
        due("the beach ahead of the hours", x.sound(2, 1000), -2);
    }

    private static void seeds() {
        sentence(10, "x is this: what it was.");
        HallShells x = new HallShells();
        due("0 at first", x.seed(Integer.MAX_VALUE), 0);
        due("the greatest", x.seed(Integer.MIN_VALUE), Integer.MAX_VALUE);
        due("the least", x.seed(-2), Integer.MIN_VALUE);
        due("like a code", x.seed(-2), -2);
        due("each can be undone", x.count(7), 4);
        due("undone", x.undo(2), 2);
        due("as it was", x.seed(0), Integer.MIN_VALUE);
    }

    private static void whispers() {
        sentence(11, "A WORD is WHISPERED: its number.");
        HallShells x = of(TWO);
        for (int w = 0; w < 8; w++) {
            due("number", x.whisper(w % 2), w);
        }
        sentence(11, "-11, -12.");
        due("a ninth", x.whisper(0), -12);
        due("a ninth", x.whisper(1), -12);
        for (int b : new int[] {2, 3, 99, 100, 900, 1000, 2000, -1, -2, Integer.MAX_VALUE, Integer.MIN_VALUE}) {
            due("no such beach " + b, x.whisper(b), -11);
            due("no such beach " + b, of(TWO).whisper(b), -11);
        }
        due("8 words", x.count(4), 8);
        due("8 calls", x.count(7), 8);
    }

    private static void gives() {
        sentence(12, "A shell is GIVEN: who held it (NONE).");
        HallShells x = of(TWO);
        due("nobody", x.give(1, 0), NONE);
        due("0", x.give(1, 2), 0);
        due("2, to whoever holds it", x.give(1, 2), 2);
        due("held", x.shell(1, 1), 2);
        due("each can be undone", x.count(7), 3);
        sentence(12, "-11.");
        bounds("shell", k -> x.give(k, 0), 0, 2, -11);
        bounds("person", p -> x.give(0, p), 0, 2, -11);
        due("no shells", of("sea 1;person;").give(0, 0), -11);
        due("no people", of("sea 1;shell 0;").give(0, 0), -11);
    }

    private static void lays() {
        sentence(13, "It is laid down: who held it.");
        HallShells x = of(TWO);
        due("1", x.lay(0), 1);
        due("2", x.lay(2), 2);
        due("by nobody", x.shell(2, 1), NONE);
        due("can be undone", x.undo(1), 1);
        due("held again", x.shell(2, 1), 2);
        sentence(13, "-11, -12.");
        due("nobody holds it", x.lay(0), -12);
        due("nobody held it ever", x.lay(1), -12);
        bounds("shell", k -> x.lay(k), 0, 2, -11);
        due("no shells", new HallShells().lay(0), -11);
    }

    private static void gales() {
        sentence(14, "A GALE: for how many HOURS it would have blown.");
        HallShells x = of("sea 1;gale 99;");
        x.hours(1);
        due("98", x.gale(99), 98);
        due("99", x.gale(0), 99);
        due("0", x.gale(7), 0);
        due("blows", x.count(6), 7);
        due("can be undone", x.undo(2), 2);
        due("blows", x.count(6), 99);
        sentence(14, "-3: n isn't 0 to 99.");
        bounds("n", n -> x.gale(n), 0, 99, -3);
    }

    private static void hours() {
        sentence(15, "n HOURS (1 to 48): how many times a person HEARD a WORD for the first time in these.");
        HallShells x = of("sea 2;current 0 1 takes 9;gale 39;person at 1;person at 1;person at 0;");
        x.whisper(0);
        x.whisper(0);
        due("1", x.hours(1), 2);
        due("47", x.undo(1) + x.hours(47), 2 + 2);
        due("not once more", x.hours(1), 4);
        due("undone", x.undo(2), 2);
        due("48", x.hours(48), 6);
        due("hour", x.count(5), 48);
        due("as one call", x.count(7), 3);
        due("nothing new", x.hours(48), 0);
        StringBuilder all = new StringBuilder("sea 1;");
        for (int p = 0; p < 6; p++) {
            all.append("person at 0;");
        }
        x = of(all.toString());
        for (int w = 0; w < 8; w++) {
            x.whisper(0);
        }
        due("8 words by six", x.hours(1), 48);
        sentence(15, "-3.");
        HallShells y = x;
        bounds("n", n -> y.hours(n), 1, 48, -3);
    }

    private static void undoes() {
        sentence(16, "n calls (1 to 10) are UNDONE: how many still can be.");
        HallShells x = new HallShells();
        for (int i = 1; i <= 10; i++) {
            x.hours(i);
        }
        due("1", x.undo(1), 9);
        due("hour", x.count(5), 45);
        due("8", x.undo(8), 1);
        due("hour", x.count(5), 1);
        for (int i = 0; i < 20; i++) {
            x.hours(2);
        }
        due("all 10", x.undo(10), 0);
        due("hour", x.count(5), 21);
        sentence(16, "-3: n, more than can be.");
        due("none can be", x.undo(1), -3);
        for (int i = 0; i < 9; i++) {
            x.hours(1);
        }
        due("10 of 9", x.undo(10), -3);
        x.hours(1);
        x.hours(1);
        due("11 of 11", x.undo(11), -3);
        bounds("n", n -> n == 1 || n == 10 ? 0 : x.undo(n), 1, 10, -3);
        due("hour", x.count(5), 32);
        due("10", x.undo(10), 0);
        due("hour", x.count(5), 22);
    }

    private static void judges() {
        sentence(17, "DEEDS, judged as if done, what 0: the first place that can't be (NONE), 1: why (0), 2: HOUR then, 3: people who HEARD all"
            + " WORDS then (without WORDS: all people), as bits.");
        HallShells x = of("sea 2;hour 999;person at 0;person at 1;person;shell 0 by 2;");
        judged(x, new long[] {}, NONE, 0, 999, 7);
        judged(x, new long[] {NONE}, NONE, 0, 1000, 7);
        judged(x, new long[] {0}, NONE, 0, 999, 0);
        judged(x, new long[] {0, NONE}, NONE, 0, 1000, 5);
        judged(x, new long[] {0, NONE, 2, NONE, NONE}, 2, 1, 1000, 5);
        judged(x, new long[] {1000, 1000, NONE}, 1, 2, 999, 7);
        judged(x, new long[] {99, 0}, 0, 1, 999, 7);
        long[] forty = new long[40];
        Arrays.fill(forty, NONE);
        judged(x, forty, NONE, 0, 1039, 7);
        forty[39] = 2100;
        judged(x, forty, 39, 1, 1038, 7);
        Arrays.fill(forty, 0);
        judged(x, forty, 8, 2, 999, 0);
        due("no hour went by", x.count(5), 999);
        due("no words", x.count(4), 0);
        due("nothing to undo", x.count(7), 0);
        due("by 2", x.shell(0, 1), 2);
        x.whisper(1);
        judged(x, new long[] {NONE, 0, NONE}, NONE, 0, 1001, 0);
        judged(x, new long[] {NONE}, NONE, 0, 1000, 2);
        sentence(17, "-2: the TRAY, what; -6.");
        HallShells y = of(TWO);
        due("missing", y.judge(3, 0), -6);
        bounds("tray", tray -> y.judge(tray, 0), 0, 3, -2);
        due("what ahead of missing", y.judge(0, 4), -2);
        y.numbers(0, 0, 0);
        bounds("what", what -> y.judge(0, what), 0, 3, -2);
    }

    private static void judged(HallShells x, long[] deeds, int... want) {
        x.numbers(0, 3, deeds.length);
        for (int i = 0; i < deeds.length; i++) {
            x.write(0, i, deeds[i]);
        }
        for (int what = 0; what < 4; what++) {
            due("judge " + Arrays.toString(deeds) + ", " + what, x.judge(0, what), want[what]);
        }
    }

    private static void performs() {
        sentence(18, "They are done, till one can't be: how many.");
        HallShells x = of(TWO);
        fill(x, 0, 1);
        due("no deeds", x.perform(0), 0);
        fill(x, 0, 1, 2);
        due("none can be", x.perform(0), 0);
        due("nothing to undo", x.count(7), 0);
        fill(x, 0, 1, 1, NONE, 2, NONE);
        due("two", x.perform(0), 2);
        due("hour", x.count(5), 1);
        due("words", x.count(4), 1);
        due("one call", x.count(7), 1);
        due("shells as they were", x.shell(0, 1), 1);
        due("shells as they were", x.shell(1, 1), NONE);
        x.numbers(1, 0, 40);
        for (int i = 0; i < 40; i++) {
            x.write(1, i, NONE);
        }
        due("forty", x.perform(1), 40);
        due("hour", x.count(5), 41);
        due("one call more", x.undo(1), 1);
        due("hour", x.count(5), 1);
        fill(x, 0, 1, 0, 0, 0, 0, 0, 0, 0, 0);
        due("8 words in all", x.perform(0), 7);
        due("words", x.count(4), 8);
        due("hour", x.count(5), 1);
        sentence(18, "-2; -6.");
        due("missing", x.perform(2), -6);
        bounds("tray", tray -> x.perform(tray), 0, 3, -2);
    }

    private static void daysTerm() {
        sentence(TERMS, "DAYS by a SEED (x is that; a DRAW: x becomes 1103515245 x + 12345, it is x >>> 16; x is 0 at first): so many times (1 to 30):"
            + " DRAW modulo 5: 0, 1 an HOUR; 2 a WORD at BEACH DRAW modulo BEACHES; 3 shell DRAW modulo shells to person DRAW modulo"
            + " people; 4 a GALE for DRAW modulo 6 HOURS; as in a TRAY, if it can be (without shells or people 3 is nothing, and no"
            + " more DRAWS).");
        HallShells x = of("sea 6;person;person;person;shell 0;shell 0;");
        due("x is 0 at first", x.seed(5), 0);
        // 0 draws 0: an hour.
        due("0: an hour", x.days(0, 1), 1);
        due("hour", x.count(5), 1);
        due("x", x.seed(0), 12345);
        // 2 draws 33676: an hour.
        due("1: an hour", x.days(2, 1), 1);
        due("hour", x.count(5), 2);
        // 4 draws 1817, 56934: a word at beach 56934 modulo 6.
        due("2: a word", x.days(4, 1), 1);
        due("at beach 0", x.word(0, 0), 1 << 56934 % 6);
        due("x", x.seed(0), -563707870);
        // -1 draws 48697, 4409: a word at beach 5.
        due("2: a word", x.days(-1, 1), 1);
        due("at beach 5", x.word(1, 0), 32);
        // 1 draws 16838, 38526, 10113: shell 0 to person 0.
        due("3: a shell", x.days(1, 1), 1);
        due("to person 0", x.shell(0, 1), 0);
        due("x", x.seed(0), 662824084);
        // -2147483648 draws 32768, 21468, 9988: shell 0 to person 1.
        due("3: a shell", x.days(Integer.MIN_VALUE, 1), 1);
        due("to person 1", x.shell(0, 1), 1);
        // 119 draws 37678, 19825, 24950: shell 1 to person 2.
        due("3: a shell", x.days(119, 1), 1);
        due("to person 2", x.shell(1, 1), 2);
        due("the other one stays", x.shell(0, 1), 1);
        // 6 draws 35494, 25515: a gale for 3 hours. 8 draws 3634, 59632: for 4. 2147483647 draws 15929, 37177: for 1.
        due("4: a gale", x.days(6, 1), 1);
        due("for 3 hours", x.count(6), 3);
        due("4: a gale", x.days(8, 1), 1);
        due("for 4 hours", x.count(6), 4);
        due("4: a gale", x.days(Integer.MAX_VALUE, 1), 1);
        due("for 1 hour", x.count(6), 1);
        due("x", x.seed(0), -1858503659);
        // 9 draws 20472, 43923: a word at beach 43923 modulo 1.
        x = new HallShells();
        due("2: a word", x.days(9, 1), 1);
        due("at the only beach", x.word(0, 0), 1);
        daysOfGales();
        daysWithout();
        daysFull();
    }

    /** Seeds that draw 4 and then a number of each kind modulo 6. */
    private static void daysOfGales() {
        boolean[] met = new boolean[6];
        for (int seed = 0; seed < 400; seed++) {
            int first = 1103515245 * seed + 12345;
            int second = 1103515245 * first + 12345;
            if ((first >>> 16) % 5 == 4) {
                HallShells x = new HallShells();
                due("a gale by " + seed, x.days(seed, 1), 1);
                due("its hours by " + seed, x.count(6), (second >>> 16) % 6);
                met[(second >>> 16) % 6] = true;
            }
        }
        for (int hours = 0; hours < 6; hours++) {
            must(met[hours], "no seed for a gale of " + hours + " hours");
        }
    }

    private static void daysWithout() {
        String[] texts = {"sea 1;", "sea 1;person;", "sea 1;shell 0;"};
        for (String text : texts) {
            HallShells x = of(text);
            due("3 is nothing in " + text, x.days(1, 1), 0);
            // 1 draws 16838 (3), 38526 (1), 10113 (3), 50283 (3): nothing, an hour, nothing, nothing.
            due("no more draws in " + text, x.days(1, 4), 1);
            due("an hour in " + text, x.count(5), 1);
            due("x in " + text, x.seed(0), -999580867);
        }
    }

    /** A ninth word can't be, but its beach is drawn. */
    private static void daysFull() {
        HallShells x = of("sea 2;");
        for (int w = 0; w < 8; w++) {
            x.whisper(0);
        }
        // 4 draws 2 and a beach, then 4 and a gale for 36479 modulo 6.
        due("the gale alone", x.days(4, 2), 1);
        due("words", x.count(4), 8);
        due("gale", x.count(6), 36479 % 6);
        due("x", x.seed(0), -1904273296);
    }

    private static void days() {
        sentence(19, "DAYS: how many could be (0: nothing changes, x neither).");
        HallShells x = of("sea 1;");
        x.seed(77);
        due("none", x.days(1, 1), 0);
        due("nothing to undo but the seed", x.count(7), 1);
        due("x is as it was", x.seed(77), 77);
        due("thirty of an hour and more", x.days(0, 30) > 0 ? 1 : 0, 1);
        due("as one call", x.count(7), 3);
        due("undone", x.undo(1), 2);
        due("hour", x.count(5), 0);
        due("x too", x.seed(77), 77);
        // 5 draws 0, 0, 1: an hour each.
        due("three", x.days(5, 3), 3);
        due("hour", x.count(5), 3);
        sentence(19, "-3: how many times.");
        bounds("times", times -> x.days(0, times), 1, 30, -3);
    }
}
