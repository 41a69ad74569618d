/** Sentences of what goes on in a sea: gales, sounds, currents, listening, words, hours, deeds, undoing. */
final class EdgesOfHours extends Edges {
    private static final int TERMS = Document.TERMS;

    static void run() {
        gales();
        sounds();
        openCurrents();
        listens();
        lawsKept();
        whispered();
        goesOut();
        hourGoesOn();
        comesIn();
        heard();
        eightWords();
        deedsByHand();
        deedsInTrays();
        whyNot();
        undone();
    }

    private static void gales() {
        sentence(TERMS, "A GALE blows in an HOUR: 1, as long as it lasts, else 0 (gale in the laws).");
        HallShells x = of("sea 2;current 0 1 takes 1;person;sounds: gale * 50 + 1;open: gale = 1;listens: gale = 1;gale 2;");
        int[] sound = {51, 51, 1, 1};
        for (int n = 0; n < 4; n++) {
            due("sound in " + n, x.sound(0, n), sound[n]);
        }
        for (int n = 0; n < 4; n++) {
            due("sound behind " + n, x.sound(0, 0), sound[n]);
            due("open behind " + n, x.current(0, 3), n < 2 ? 1 : 0);
            due("listens behind " + n, x.person(0, 4), n < 2 ? 1 : 0);
            x.hours(1);
        }
        x.gale(99);
        due("the last hour of 99", x.sound(0, 98), 51);
        due("behind it", x.sound(0, 99), 1);
        x.gale(0);
        due("none", x.sound(0, 0), 1);
    }

    private static void sounds() {
        sentence(TERMS, "SOUND of a BEACH in an HOUR, by the law sounds, 0 at least, 99 at most (without one: 10 times the BEACH and"
            + " the GALE): beach: its number, hour: HOUR modulo 24.");
        HallShells x = of("sea 6;gale 1;");
        for (int b = 0; b < 6; b++) {
            due("without a law, in a gale", x.sound(b, 0), 10 * b + 1);
            due("without a law", x.sound(b, 1), 10 * b);
        }
        due("-1 is 0", of("sea 1;sounds: 0 - 1;").sound(0, 0), 0);
        due("-1000000 is 0", of("sea 1;sounds: 0 - 999 * 999 * 999;").sound(0, 0), 0);
        due("0 is 0", of("sea 1;sounds: 0;").sound(0, 0), 0);
        due("98 is 98", of("sea 1;sounds: 98;").sound(0, 0), 98);
        due("99 is 99", of("sea 1;sounds: 99;").sound(0, 0), 99);
        due("100 is 99", of("sea 1;sounds: 100;").sound(0, 0), 99);
        due("1000000 is 99", of("sea 1;sounds: 999 * 999 * 999;").sound(0, 0), 99);
        x = of("sea 6;hour 22;sounds: hour + beach * 5;");
        int[] hours = {22, 23, 0, 1};
        for (int n = 0; n < 4; n++) {
            due("hour " + (22 + n), x.sound(0, n), hours[n]);
            due("beach 5", x.sound(5, n), hours[n] + 25);
        }
        x.hours(3);
        due("hour 25", x.sound(0, 0), 1);
        due("hour 999", of("sea 1;hour 999;sounds: hour;").sound(0, 0), 15);
        due("hour 1998", of("sea 1;hour 999;sounds: hour;").sound(0, 999), 6);
    }

    private static void openCurrents() {
        sentence(TERMS, "A current is OPEN in an HOUR, if the law open holds (without one: if no GALE blows): from, to: BEACHES, takes: as told.");
        HallShells x = of("sea 2;current 0 1 takes 1;gale 1;");
        due("in a gale", x.current(0, 3), 0);
        x.hours(1);
        due("in none", x.current(0, 3), 1);
        x = of("sea 6;current 5 0 takes 9;current 0 5 takes 9;current 5 0 takes 1;gale 9;"
            + "open: from = 5 and to = 0 and takes = 9;");
        due("by a law, also in a gale", x.current(0, 3), 1);
        due("two by a law", openOnes(of("sea 2;" + "current 0 1 takes 1;current 1 0 takes 2;".repeat(5) + "open: not takes = 1;")), 682);
        due("none by a law", openOnes(of("sea 2;" + "current 0 1 takes 1;".repeat(10) + "open: not takes = 1;")), 0);
        due("the other way", x.current(1, 3), 0);
        due("the faster one", x.current(2, 3), 0);
        x = of("sea 2;current 0 1 takes 1;hour 47;open: hour = 0;");
        due("hour 47", x.current(0, 3), 0);
        x.hours(1);
        due("hour 48 is 0", x.current(0, 3), 1);
    }

    private static int openOnes(HallShells x) {
        int set = 0;
        for (int k = 0; k < 10; k++) {
            set |= x.current(k, 3) << k;
        }
        return set;
    }

    private static void listens() {
        sentence(TERMS, "A person who isn't deaf LISTENS in an HOUR, if the law listens holds (without one: always): who: its number,"
            + " home: BEACH (6 inland), words: how many WORDS it has HEARD.");
        HallShells x = of("sea 6;person;person at 5;person deaf;person at 5 deaf;gale 1;");
        int[] always = {1, 1, 0, 0};
        for (int p = 0; p < 4; p++) {
            due("without a law " + p, x.person(p, 4), always[p]);
        }
        x = of("sea 6;person;person at 5;person deaf;person at 5 deaf;listens: 1 = 1;");
        for (int p = 0; p < 4; p++) {
            due("by a law that always holds " + p, x.person(p, 4), always[p]);
        }
        x = of("sea 6;person;person at 5;person at 0;listens: home = 6;");
        due("6 inland", x.person(0, 4), 1);
        due("5", x.person(1, 4), 0);
        x = of("sea 6;person;person at 5;person at 0;listens: home = 5 or home = 0 and who = 2;");
        due("inland", x.person(0, 4), 0);
        due("home 5", x.person(1, 4), 1);
        due("home 0, who 2", x.person(2, 4), 1);
        x = of("sea 6;person;person at 5;person at 0;listens: who = 1;");
        due("who 0", x.person(0, 4), 0);
        due("who 1", x.person(1, 4), 1);
        due("who 2", x.person(2, 4), 0);
        x = of("sea 1;person at 0;person;listens: words = 8 or words < 8 and who = 0;");
        due("0 words", x.person(0, 4), 1);
        for (int w = 0; w < 8; w++) {
            x.whisper(0);
        }
        x.hours(1);
        due("8 words", x.person(0, 4), 1);
        due("0 words of the other one", x.person(1, 4), 0);
        x = of("sea 1;person at 0;listens: words < 8;");
        for (int w = 0; w < 8; w++) {
            x.whisper(0);
            due("listens, having heard " + w, x.person(0, 4), 1);
            x.hours(1);
        }
        due("8 heard", x.person(0, 2), 255);
        due("listens no more", x.person(0, 4), 0);
        x = of("sea 1;person;person;person;person;person;person;listens: not who = 3;");
        for (int p = 0; p < 6; p++) {
            due("all but 3", x.person(p, 4), p == 3 ? 0 : 1);
        }
        for (int words = 1; words <= 8; words++) {
            listensByAll(words);
        }
        listensDayByDay();
    }

    /** A person that hears more words each day, asked in every hour, in a gale and without one. */
    private static void listensDayByDay() {
        HallShells x = of("sea 1;person at 0;listens: words = 0 or hour * 4 > words * 9 + gale * 20;");
        int[] more = {1, 3, 3, 1, 0};
        int words = 0;
        for (int add : more) {
            for (int hour = 0; hour < 24; hour++) {
                due(words + " words, hour " + hour, x.person(0, 4), words == 0 || hour * 4 > words * 9 ? 1 : 0);
                x.gale(1);
                due(words + " words, hour " + hour + ", a gale", x.person(0, 4), words == 0 || hour * 4 > words * 9 + 20 ? 1 : 0);
                x.hours(1);
            }
            for (int w = 0; w < add; w++) {
                x.whisper(0);
            }
            due("more words", x.hours(24), add);
            words += add;
        }
    }

    /** A person that has heard so many words, in each hour of a day, in a gale and without one. */
    private static void listensByAll(int words) {
        HallShells x = of("sea 1;hour 23;person at 0;listens: words = 0 or hour * 4 > words * 9 + gale * 20;");
        for (int w = 0; w < words; w++) {
            x.whisper(0);
        }
        due("heard", x.hours(1), words);
        for (int hour = 0; hour < 24; hour++) {
            for (int gale = 1; gale >= 0; gale--) {
                x.gale(gale);
                due(words + " words, hour " + hour + ", gale " + gale, x.person(0, 4), hour * 4 > words * 9 + gale * 20 ? 1 : 0);
            }
            x.hours(1);
        }
    }

    private static void lawsKept() {
        sentence(TERMS, "In all laws each + - * is kept from -1,000,000 to 1,000,000.");
        String most = "(999 * 999 + 999 + 999 + 1)";
        String nearlyMost = "(999 * 999 + 999 + 999)";
        String least = "(0 - 999 * 999 - 999 - 999 - 1)";
        due("1000000 - 999999", of("sea 1;sounds: " + most + " - " + nearlyMost + ";").sound(0, 0), 1);
        due("+ 1 more is kept", of("sea 1;sounds: " + most + " + 1 - " + nearlyMost + ";").sound(0, 0), 1);
        due("+ 5, - 5: kept at each", of("sea 1;sounds: " + most + " + 5 - 5 - " + nearlyMost + " + 6;").sound(0, 0), 2);
        due("* is kept", of("sea 1;sounds: 999 * 999 * 2 - " + nearlyMost + ";").sound(0, 0), 1);
        due("- 1 more is kept", of("sea 1;sounds: " + least + " - 1 + " + nearlyMost + " + 2;").sound(0, 0), 1);
        due("-1000000 is not cut", of("sea 1;sounds: " + least + " + " + nearlyMost + " + 2;").sound(0, 0), 1);
        due("* is kept below", of("sea 1;sounds: (0 - 999) * 999 * 2 + " + nearlyMost + " + 2;").sound(0, 0), 1);
        due("- of one below", of("sea 1;sounds: 5 - " + least + " - " + nearlyMost + ";").sound(0, 0), 1);
        due("+ of one below", of("sea 1;sounds: 5 - " + most + " + " + least + " + " + nearlyMost + " + 2;").sound(0, 0), 1);
        due("* of two great ones", of("sea 1;sounds: " + most + " * " + most + " - " + nearlyMost + ";").sound(0, 0), 1);
        due("* of two small ones", of("sea 1;sounds: " + least + " * " + least + " - " + nearlyMost + ";").sound(0, 0), 1);
        HallShells x = of("sea 2;current 0 1 takes 1;person;open: 999 * 999 * 2 = 999 * 999 * 3;listens: 0 - 999 * 999 * 2 = " + least + ";");
        due("in open too", x.current(0, 3), 1);
        due("in listens too", x.person(0, 4), 1);
    }

    private static void whispered() {
        sentence(TERMS, "A WORD is WHISPERED at a BEACH: it is there at once, and stays.");
        HallShells x = of("sea 6;current 5 4 takes 1;");
        x.whisper(5);
        due("there at once", x.word(0, 0), 32);
        due("not under way", x.word(0, 1), 0);
        x.hours(1);
        due("stays", x.word(0, 0), 48);
        x.hours(48);
        due("stays", x.word(0, 0), 48);
    }

    private static void goesOut() {
        sentence(TERMS, "An HOUR: (1) each WORD that is at a BEACH goes out by each current from there that is OPEN in this HOUR, if it"
            + " didn't go by it yet; it is under way for as many HOURS as that takes.");
        HallShells x = of("sea 3;current 0 1 takes 9;current 0 2 takes 1;current 0 1 takes 2;");
        x.whisper(0);
        x.whisper(1);
        x.whisper(0);
        x.hours(1);
        due("by each current", x.word(0, 1), 2);
        due("the shortest came in", x.word(0, 0), 5);
        due("only from where it is", x.word(1, 1), 0);
        due("each word", x.word(2, 1), 2);
        x.hours(1);
        due("by 1 of 2", x.word(0, 1), 1);
        due("came in", x.word(0, 0), 7);
        x.hours(6);
        due("8 of 9 hours", x.word(0, 1), 1);
        x.hours(1);
        due("9 of 9 hours", x.word(0, 1), 0);
        x.hours(1);
        due("it went by all", x.word(0, 1), 0);
        x = of("sea 2;current 0 1 takes 1;current 1 0 takes 1;");
        x.whisper(0);
        x.hours(2);
        due("back again", x.word(0, 1), 0);
        x.hours(1);
        due("not by it once more", x.word(0, 1), 0);
        x = of("sea 2;current 0 1 takes 2;hour 5;open: hour = 6;");
        x.whisper(0);
        x.hours(1);
        due("shut in hour 5", x.word(0, 1), 0);
        x.hours(1);
        due("open in hour 6", x.word(0, 1), 1);
        x.hours(1);
        due("shut behind it, but it goes on", x.word(0, 0), 3);
        x.hours(24);
        due("never twice", x.word(0, 1), 0);
        x = of("sea 2;current 0 1 takes 1;gale 1;");
        x.whisper(0);
        x.hours(1);
        due("the gale's last hour", x.word(0, 1), 0);
        due("the gale's last hour", x.word(0, 0), 1);
        x.gale(0);
        x.hours(1);
        due("no gale", x.word(0, 0), 3);
    }

    private static void hourGoesOn() {
        sentence(TERMS, "(2) HOUR is 1 more, a GALE lasts 1 less.");
        HallShells x = of("sea 1;hour 999;gale 2;");
        int[] gale = {2, 1, 0, 0, 0};
        for (int n = 0; n < 5; n++) {
            due("hour", x.count(5), 999 + n);
            due("gale, never below 0", x.count(6), gale[n]);
            x.hours(1);
        }
    }

    private static void comesIn() {
        sentence(TERMS, "(3) WORDS whose time it is come in, and are there.");
        HallShells x = of("sea 4;current 0 1 takes 1;current 1 2 takes 1;current 2 3 takes 3;person at 1;");
        x.whisper(0);
        int[] at = {1, 3, 7, 7, 7, 15};
        for (int n = 0; n < 6; n++) {
            due("behind " + n + " hours", x.word(0, 0), at[n]);
            due("heard behind " + n + " hours", x.word(0, 2), n > 0 ? 1 : 0);
            x.hours(1);
        }
        x = of("sea 2;current 0 1 takes 2;current 0 1 takes 2;");
        x.whisper(0);
        x.hours(1);
        due("two at once", x.word(0, 1), 2);
        x.hours(1);
        due("both came in", x.word(0, 1), 0);
        due("there", x.word(0, 0), 3);
    }

    private static void heard() {
        sentence(TERMS, "(4) Each person that LISTENS then HEARS all WORDS that are at the BEACH where it lives, or at one from which a"
            + " shell is that it holds.");
        HallShells x = of("sea 3;person at 0;person;person;shell 1 by 1;shell 2 by 1;shell 0 by 2;shell 0;");
        x.whisper(0);
        x.whisper(1);
        x.whisper(2);
        due("times", x.hours(1), 4);
        due("where it lives", x.person(0, 2), 1);
        due("by two shells", x.person(1, 2), 6);
        due("by one", x.person(2, 2), 1);
        x.give(0, 2);
        due("by one given", x.hours(1), 1);
        due("what it heard stays heard", x.person(1, 2), 6);
        x.lay(1);
        x.whisper(2);
        due("by one laid down", x.hours(1), 0);
        x = of("sea 1;hour 22;person at 0;listens: hour = 0;");
        x.whisper(0);
        due("hour 23", x.hours(1), 0);
        due("hour 24", x.hours(1), 1);
        x = of("sea 1;gale 1;person at 0;listens: gale = 1;");
        x.whisper(0);
        due("the gale is over then", x.hours(1), 0);
        x.gale(2);
        due("it still blows then", x.hours(1), 1);
        x = of("sea 1;person at 0;person at 0;listens: words = 0;");
        for (int w = 0; w < 8; w++) {
            x.whisper(0);
        }
        due("all at once, though it listens with none alone", x.hours(1), 16);
    }

    private static void eightWords() {
        sentence(TERMS, "WORDS are numbered from 0 on, 8 at most.");
        HallShells x = of("sea 2;");
        due("none", x.word(0, 0), -2);
        for (int w = 0; w < 8; w++) {
            due("whisper", x.whisper(w % 2), w);
            due("there", x.word(w, 0), 1 + w % 2);
            due("none behind it", x.word(w + 1, 0), -2);
        }
        due("a ninth", x.whisper(0), -12);
        due("none ahead of 0", x.word(-1, 0), -2);
        due("words", x.count(4), 8);
        x.undo(1);
        due("one undone", x.count(4), 7);
        due("its number again", x.whisper(1), 7);
    }

    private static void deedsByHand() {
        sentence(TERMS, "To WHISPER; to GIVE a shell to a person (also to whoever holds it), or lay it down (nobody holds it); a GALE"
            + " that lasts n HOURS from this one on (0: none).");
        HallShells x = of("sea 1;person;person;shell 0;gale 5;");
        due("given", x.give(0, 1), NONE);
        due("also to whoever holds it", x.give(0, 1), 1);
        due("that can be undone too", x.count(7), 2);
        due("from one to another", x.give(0, 0), 1);
        due("laid down", x.lay(0), 0);
        due("nobody holds it", x.shell(0, 1), NONE);
        due("a gale", x.gale(1), 5);
        due("this hour", x.sound(0, 0), 1);
        due("the next", x.sound(0, 1), 0);
        due("none", x.gale(0), 1);
        due("this hour", x.sound(0, 0), 0);
        due("again none", x.gale(0), 0);
    }

    /** All that can be told, with every shell held by person 0. */
    private static final String FULL = "sea 6;person;person;person;person;person;person;"
        + "shell 0 by 0;shell 1 by 0;shell 2 by 0;shell 3 by 0;shell 4 by 0;shell 5 by 0;shell 0 by 0;shell 1 by 0;";

    private static void deedsInTrays() {
        sentence(TERMS, "DEEDS in a TRAY: 0 to 99: a WORD is WHISPERED at BEACH v; 100 to 899: shell (v - 100) by 100 is GIVEN to person v"
            + " modulo 100; 1000 to 1099: shell v - 1000 is laid down; 2000 to 2099: a GALE for v - 2000 HOURS; NONE: an HOUR.");
        HallShells x = of(FULL);
        fill(x, 0, 1, 0, 5, NONE, 105, 203, 805, 1000, 1006, 2099, NONE, NONE);
        due("all", x.perform(0), 11);
        due("words", x.count(4), 2);
        due("at beach 0", x.word(0, 0), 1);
        due("at beach 5", x.word(1, 0), 32);
        due("hours", x.count(5), 3);
        due("gale", x.count(6), 97);
        int[] by = {NONE, 3, 0, 0, 0, 0, NONE, 5};
        for (int k = 0; k < 8; k++) {
            due("by of " + k, x.shell(k, 1), by[k]);
        }
        fill(x, 0, 1, 2000);
        due("a gale for 0 hours", x.perform(0), 1);
        due("gale", x.count(6), 0);
        x = of(FULL);
        for (int v = -300; v < 2400; v++) {
            boolean can = v == NONE || v >= 0 && v <= 5 || v >= 100 && v <= 899 && v % 100 <= 5
                || v >= 1000 && v <= 1007 || v >= 2000 && v <= 2099;
            if (v % 150 == 0) {
                x = of(FULL);
            }
            x.numbers(1, 1, 1);
            x.write(1, 0, v);
            due("why not " + v, x.judge(1, 1), can ? 0 : 1);
        }
        x.numbers(1, 3, 1);
        for (long v : new long[] {1L << 32, (1L << 32) - 1, -1L << 32, Long.MAX_VALUE, Long.MIN_VALUE, Integer.MIN_VALUE}) {
            x.write(1, 0, v);
            due("why not " + v, x.judge(1, 1), 1);
        }
    }

    private static void whyNot() {
        sentence(TERMS, "Why not: 1 no such BEACH, shell, person, number; 2 there are 8 WORDS; nobody holds it (to lay it down).");
        HallShells x = of("sea 2;person;shell 0;");
        int[] deeds = {2, 200, 101, 900, 1001, 1000};
        int[] why = {1, 1, 1, 1, 1, 2};
        for (int i = 0; i < deeds.length; i++) {
            fill(x, 0, 1, deeds[i]);
            due("why not " + deeds[i], x.judge(0, 1), why[i]);
        }
        due("no such beach", x.whisper(2), -11);
        due("no such shell", x.give(1, 0), -11);
        due("no such person", x.give(0, 1), -11);
        due("no such shell", x.lay(1), -11);
        due("nobody holds it", x.lay(0), -12);
        for (int w = 0; w < 8; w++) {
            x.whisper(0);
        }
        due("8 words", x.whisper(1), -12);
        due("8 words, but no such beach", x.whisper(2), -11);
        fill(x, 0, 1, 1);
        due("8 words", x.judge(0, 1), 2);
        fill(x, 0, 1, 2);
        due("8 words, but no such beach", x.judge(0, 1), 1);
    }

    private static void undone() {
        sentence(TERMS, "Calls that did some can be UNDONE each as a whole, the latest first, 10 at most (eldest are forgotten): HOUR,"
            + " GALE, shells, WORDS and who HEARD them, x.");
        HallShells x = of("sea 2;current 0 1 takes 3;person at 0;shell 1;hour 5;gale 0;");
        x.whisper(0);
        x.hours(2);
        x.give(0, 0);
        x.gale(4);
        x.seed(6);
        x.numbers(0, 1, 4);
        x.write(0, 0, NONE);
        x.write(0, 1, 1);
        x.write(0, 2, 1000);
        x.write(0, 3, 2007);
        due("done", x.perform(0), 4);
        due("all of it", x.count(7), 6);
        due("as a whole", x.undo(1), 5);
        due("hour", x.count(5), 7);
        due("gale", x.count(6), 4);
        due("words", x.count(4), 1);
        due("shell", x.shell(0, 1), 0);
        due("under way", x.word(0, 1), 1);
        due("the tray stays", x.write(0, 3, 5), 5);
        due("so it comes in", x.comesIn(0, 1), 1);
        due("x", x.undo(1), 4);
        due("gale", x.undo(1), 3);
        due("gale", x.count(6), 0);
        due("shell", x.undo(1), 2);
        due("shell", x.shell(0, 1), NONE);
        due("heard", x.word(0, 2), 1);
        due("hours", x.undo(1), 1);
        due("hour", x.count(5), 5);
        due("not heard", x.word(0, 2), 0);
        due("not under way", x.word(0, 1), 0);
        due("word", x.undo(1), 0);
        due("words", x.count(4), 0);
        due("x was 0", x.seed(0), 0);
        x = of("sea 1;");
        for (int i = 1; i <= 25; i++) {
            x.gale(i);
            due("10 at most", x.count(7), Math.min(10, i));
        }
        for (int i = 24; i >= 15; i--) {
            due("the latest first", x.undo(1), i - 15);
            due("gale", x.count(6), i);
        }
        due("eldest are forgotten", x.undo(1), -3);
        due("gale", x.count(6), 15);
        for (int i = 1; i <= 9; i++) {
            x.gale(50 + i);
        }
        due("five of nine", x.undo(5), 4);
        due("gale", x.count(6), 54);
        x.gale(70);
        due("one, and two more", x.undo(3), 2);
        due("gale", x.count(6), 52);
        due("a call that asks does nothing", x.count(7), 2);
        undoneUnderWay();
        due("nor a refused one", x.gale(100), -3);
        due("nor a refused one", x.whisper(1), -11);
        due("two still", x.count(7), 2);
    }

    /** Eight words by ten currents each: all of them are under way again. */
    private static void undoneUnderWay() {
        HallShells x = of("sea 2;" + "current 0 1 takes 9;".repeat(9) + "current 1 0 takes 9;");
        for (int w = 0; w < 8; w++) {
            x.whisper(w < 7 ? 0 : 1);
            x.hours(1);
        }
        due("the first in an hour", x.comesIn(0, 1), 1);
        due("the last in eight", x.comesIn(7, 0), 8);
        x.hours(1);
        x.hours(40);
        due("two undone", x.undo(2), 8);
        for (int w = 0; w < 8; w++) {
            due("under way", x.word(w, 1), w < 7 ? 9 : 1);
            due("it comes in", x.comesIn(w, w < 7 ? 1 : 0), w + 1);
        }
    }
}
