/** Sentences of what is to come, of calls, and of who hears whom. */
final class EdgesOfCalls extends Edges {
    private static final int TERMS = Document.TERMS;

    /** 0 to 1 to 2, and back to 0 slowly; people at 0 and 2, one inland with a shell from 1, one deaf at 1. */
    private static final String RING = "sea 3;current 0 1 takes 2;current 1 2 takes 1;current 2 0 takes 3;"
        + "person at 0;person at 2;person;person at 1 deaf;shell 1 by 2;";

    /** A word needs just as many hours from 0 to 1 as the gale lasts and 9 more. */
    private static final String LATE = "sea 2;current 0 1 takes 9;person at 1;";

    static void run() {
        toCome();
        comesIn();
        hearsIn();
        heard();
        loudest();
        calls();
        hearers();
        far();
        reaches();
        secretTerm();
        secret();
        widest();
        shutTerm();
        shut();
        takeTerm();
        take();
        needs();
        spiesTerm();
        spies();
        watch();
        oneHears();
        hears();
        mutual();
        passes();
        gift();
    }

    private static void toCome() {
        sentence(TERMS, "To come: HOURS go by, nothing else being done.");
        HallShells x = of(RING + "gale 1;hour 4;");
        x.whisper(0);
        due("word", x.comesIn(0, 2), 4);
        due("person", x.hearsIn(0, 1), 4);
        due("who", x.heard(0, 99), 7);
        due("loudest", x.loudest(99), 0);
        due("no hour went by", x.count(5), 4);
        due("no gale went by", x.count(6), 1);
        due("nobody heard it", x.word(0, 2), 0);
        due("nothing to undo but the whispering", x.count(7), 1);
        x.whisper(2);
        due("a second word", x.hearsIn(1, 1), 1);
        due("a second word", x.hearsIn(1, 0), 4);
        due("a second word", x.comesIn(1, 0), 4);
        x.undo(1);
        x.hours(4);
        due("so it came", x.word(0, 0), 7);
        due("so it was heard", x.word(0, 2), 7);
    }

    private static void comesIn() {
        sentence(20, "In how many HOURS (0 to 99) a WORD comes to a BEACH.");
        HallShells x = of(LATE);
        x.whisper(0);
        due("it is there", x.comesIn(0, 0), 0);
        due("9", x.comesIn(0, 1), 9);
        x.hours(8);
        due("1", x.comesIn(0, 1), 1);
        x.hours(1);
        due("0", x.comesIn(0, 1), 0);
        x = of(LATE + "gale 90;");
        x.whisper(0);
        due("99", x.comesIn(0, 1), 99);
        sentence(20, "NONE: not by then; -2.");
        x.gale(91);
        due("100", x.comesIn(0, 1), NONE);
        x.whisper(1);
        due("never", x.comesIn(1, 0), NONE);
        HallShells two = x;
        bounds("word", w -> two.comesIn(w, 0), 0, 1, -2);
        bounds("beach", b -> two.comesIn(0, b), 0, 1, -2);
        due("no words", new HallShells().comesIn(0, 0), -2);
    }

    private static void hearsIn() {
        sentence(21, "In how many HOURS (0 to 99) a person HEARS a WORD (0: it did).");
        HallShells x = of(LATE + "person at 0;");
        x.whisper(0);
        due("where it is, 1", x.hearsIn(0, 1), 1);
        due("9", x.hearsIn(0, 0), 9);
        x.hours(9);
        due("it did", x.hearsIn(0, 0), 0);
        due("it did", x.hearsIn(0, 1), 0);
        x = of(LATE + "gale 90;");
        x.whisper(0);
        due("99", x.hearsIn(0, 0), 99);
        sentence(21, "NONE: not by then; -2.");
        x.gale(91);
        due("100", x.hearsIn(0, 0), NONE);
        due("deaf", deafAtItsBeach().hearsIn(0, 0), NONE);
        HallShells one = x;
        bounds("word", w -> one.hearsIn(w, 0), 0, 0, -2);
        bounds("person", p -> one.hearsIn(0, p), 0, 0, -2);
        due("no words", of(LATE).hearsIn(0, 0), -2);
        due("no people", new HallShells().hearsIn(0, 0), -2);
    }

    private static HallShells deafAtItsBeach() {
        HallShells x = of("sea 1;person at 0 deaf;");
        x.whisper(0);
        return x;
    }

    private static void heard() {
        sentence(22, "Who has HEARD a WORD in n HOURS (0 to 99), as bits.");
        HallShells x = of(RING);
        x.whisper(0);
        int[] who = {0, 1, 5, 7};
        for (int n = 0; n < who.length; n++) {
            due("in " + n, x.heard(0, n), who[n]);
        }
        due("in 99", x.heard(0, 99), 7);
        x.hours(2);
        due("now", x.heard(0, 0), 5);
        x = of(LATE + "gale 90;");
        x.whisper(0);
        due("in 98", x.heard(0, 98), 0);
        due("in 99", x.heard(0, 99), 1);
        sentence(22, "-2; -3.");
        HallShells one = x;
        bounds("word", w -> one.heard(w, 0), 0, 0, -2);
        bounds("hours", n -> one.heard(0, n), 0, 99, -3);
        due("the word ahead of the hours", x.heard(1, 100), -2);
        due("no words", new HallShells().heard(0, 0), -2);
    }

    private static void loudest() {
        sentence(23, "The WORD that has been HEARD by most in n HOURS (0 to 99), the first.");
        HallShells x = of(LATE + "person at 1;person at 0;gale 90;");
        x.whisper(0);
        x.whisper(1);
        x.whisper(1);
        x.whisper(0);
        due("none is heard: the first", x.loudest(0), 0);
        due("1 and 2 are heard by two: the first", x.loudest(1), 1);
        due("in 98", x.loudest(98), 1);
        due("in 99 the first by three", x.loudest(99), 0);
        sentence(23, "NONE: no WORDS; -3.");
        due("no words", of(RING).loudest(0), NONE);
        due("no words", of(RING).loudest(99), NONE);
        bounds("hours", n -> x.loudest(n), 0, 99, -3);
        due("-3 ahead of NONE", of(RING).loudest(100), -3);
    }

    private static void calls() {
        sentence(TERMS, "A CALL from a BEACH: a WORD were WHISPERED there in w HOURS (0: now), no other WORDS being, nobody having HEARD any;"
            + " HEARERS of it within n HOURS (0 to 48) behind that: who HEARS it by then (in HOURS 1 to n behind the WHISPERING).");
        HallShells x = of("sea 2;current 0 1 takes 1;person at 0;person at 1;listens: words = 0;gale 1;");
        for (int w = 0; w < 8; w++) {
            x.whisper(0);
        }
        x.hours(1);
        x.gale(1);
        due("person 0 listens no more", x.person(0, 4), 0);
        due("a ninth word can't be", x.whisper(0), -12);
        due("in 0 hours nobody", x.hearers(0, 0, 0), 0);
        due("in an hour, as if none were", x.hearers(0, 0, 1), 1);
        due("in two, the gale being over", x.hearers(0, 0, 2), 3);
        due("whispered in an hour, within 1", x.hearers(0, 1, 1), 3);
        due("within 48", x.hearers(0, 23, 48), 3);
        due("no word more", x.count(4), 8);
        x = of("sea 1;person at 0;listens: hour = 3;");
        due("hour 2 is too soon", x.hearers(0, 0, 2), 0);
        due("hour 3", x.hearers(0, 0, 3), 1);
        due("whispered in hour 2", x.hearers(0, 2, 1), 1);
        due("whispered in hour 3 it is heard a day later", x.hearers(0, 3, 23), 0);
        due("whispered in hour 3 it is heard a day later", x.hearers(0, 3, 24), 1);
        x = of("sea 2;current 0 1 takes 1;person at 1;hour 23;open: hour = 1;");
        due("open in two hours", x.far(0, 1), 3);
        due("open in two hours", x.hearers(0, 0, 2), 0);
        due("open in two hours", x.hearers(0, 0, 3), 1);
        due("open in that hour", x.hearers(0, 2, 1), 1);
        due("open a day later", x.hearers(0, 3, 23), 0);
        due("open a day later", x.hearers(0, 3, 24), 1);
    }

    private static void hearers() {
        sentence(24, "HEARERS of a CALL in w HOURS (0 to 23) from a BEACH within n HOURS, as bits.");
        HallShells x = of(RING + "gale 23;");
        due("in the gale", x.hearers(0, 0, 23), 1);
        due("in the gale", x.hearers(0, 0, 24), 1);
        due("2 behind it", x.hearers(0, 0, 25), 5);
        due("w 22", x.hearers(0, 22, 2), 1);
        due("w 22", x.hearers(0, 22, 3), 5);
        due("w 23", x.hearers(0, 23, 2), 5);
        due("w 23", x.hearers(0, 23, 3), 7);
        x = of(LATE + "gale 62;");
        due("w 23, within 47", x.hearers(0, 23, 47), 0);
        due("w 23, within 48", x.hearers(0, 23, 48), 1);
        sentence(24, "-2; -3: w, n (as everywhere).");
        HallShells late = x;
        bounds("beach", b -> late.hearers(b, 0, 0), 0, 1, -2);
        bounds("w", w -> late.hearers(0, w, 0), 0, 23, -3);
        bounds("n", n -> late.hearers(0, 0, n), 0, 48, -3);
        due("the beach ahead of the hours", x.hearers(2, 24, 49), -2);
    }

    private static void far() {
        sentence(25, "HOURS (0 to 48) from a CALL now from a BEACH till it comes to another one (0: the same).");
        HallShells x = of(RING);
        int[] far = {0, 2, 3, 4, 0, 1, 3, 5, 0};
        for (int i = 0; i < 9; i++) {
            due("from " + i / 3 + " to " + i % 3, x.far(i / 3, i % 3), far[i]);
        }
        x = of(LATE + "gale 39;");
        due("48", x.far(0, 1), 48);
        sentence(25, "NONE: not by then; -2.");
        x.gale(40);
        due("49", x.far(0, 1), NONE);
        due("never", x.far(1, 0), NONE);
        HallShells late = x;
        bounds("from", b -> late.far(b, 0), 0, 1, -2);
        bounds("to", c -> late.far(0, c), 0, 1, -2);
        due("the same, but there is none such", x.far(2, 2), -2);
    }

    private static void reaches() {
        sentence(26, "HOURS (1 to 48) from a CALL now from a BEACH till a person HEARS it.");
        HallShells x = of(RING);
        int[] reaches = {1, 3, 2, 4, 1, 1, 3, 1, 5};
        for (int i = 0; i < 9; i++) {
            due("from " + i / 3 + " to " + i % 3, x.reaches(i / 3, i % 3), reaches[i]);
        }
        x = of(LATE + "gale 39;");
        due("48", x.reaches(0, 0), 48);
        due("never 0", x.reaches(1, 0), 1);
        sentence(26, "NONE: not by then; -2.");
        x.gale(40);
        due("49", x.reaches(0, 0), NONE);
        due("deaf", of(RING).reaches(1, 3), NONE);
        due("49 hours till it listens", of("sea 1;person at 0;gale 49;listens: gale = 0;").reaches(0, 0), NONE);
        due("48 hours till it listens", of("sea 1;person at 0;gale 48;listens: gale = 0;").reaches(0, 0), 48);
        HallShells late = x;
        bounds("beach", b -> late.reaches(b, 0), 0, 1, -2);
        bounds("person", p -> late.reaches(0, p), 0, 0, -2);
        due("no people", new HallShells().reaches(0, 0), -2);
    }

    private static void secretTerm() {
        sentence(TERMS, "SECRET for a set of people within n HOURS: a CALL of which HEARERS within n are just these: with the least w (0 to 23),"
            + " of like ones from the first BEACH.");
        HallShells x = of("sea 3;person at 1;person at 2;person at 2;listens: hour = 1 or who = 0;");
        due("from 2 both hear it", x.secret(6, 1, 0), 0);
        due("from 2 both hear it", x.secret(6, 1, 1), 2);
        due("just one of them never", x.secret(2, 1, 0), NONE);
        due("just these two never", x.secret(3, 1, 0), NONE);
        due("nobody: the first beach", x.secret(0, 1, 1), 0);
        due("somebody always hears it", of("sea 1;person at 0;").secret(0, 1, 0), NONE);
        String six = "sea 6;person at 0;person at 1;person at 2;person at 3;person at 4;person at 5;";
        due("the last of six beaches", of(six).secret(32, 48, 1), 5);
        due("none of six beaches", of(six).secret(0, 48, 1), NONE);
        x = of("sea 2;person at 0;person at 1;listens: hour = 0 and who = 0 or hour > 1 and who = 1;");
        // Within 1 hour person 0 hears what was whispered in hour 23 alone.
        due("the last w", x.secret(1, 1, 0), 23);
        due("from 0", x.secret(1, 1, 1), 0);
        due("within 2 a little sooner", x.secret(1, 2, 0), 22);
        due("person 1 hears hours 2 and on", x.secret(2, 1, 0), 1);
        due("from 1", x.secret(2, 1, 1), 1);
        x = of("sea 2;person at 0;gale 24;listens: gale = 0;");
        due("w 23 is the last", x.secret(1, 1, 0), 23);
        x.gale(25);
        due("24 would be too late", x.secret(1, 1, 0), NONE);
        x = of("sea 3;current 0 1 takes 1;current 1 2 takes 1;person at 1;person at 2;open: hour < 4;");
        due("both by currents", x.secret(3, 2, 1), 0);
        due("the first alone: the current to 2 is shut in hour 4", x.secret(1, 9, 0), 3);
        due("from 0", x.secret(1, 9, 1), 0);
    }

    private static void secret() {
        sentence(27, "SECRET, what 0: w, 1: the BEACH; NONE: there is none.");
        HallShells x = of("sea 2;gale 3;person at 1;person deaf;listens: gale = 0;");
        due("w", x.secret(1, 1, 0), 2);
        due("the beach", x.secret(1, 1, 1), 1);
        due("nobody: w", x.secret(0, 48, 0), 0);
        due("nobody: the beach", x.secret(0, 48, 1), 0);
        due("a deaf one", x.secret(2, 48, 0), NONE);
        due("a deaf one", x.secret(2, 48, 1), NONE);
        due("within 0 nobody", x.secret(0, 0, 0), 0);
        due("within 0 nobody else", x.secret(1, 0, 0), NONE);
        sentence(27, "-2: what; -3: the set has others than people; n.");
        bounds("what", what -> x.secret(0, 0, what), 0, 1, -2);
        bounds("set", set -> x.secret(set, 0, 0), 0, 3, -3);
        bounds("n", n -> x.secret(0, n, 0), 0, 48, -3);
        due("what ahead of the set", x.secret(4, 49, 2), -2);
        due("a set of nobody else", new HallShells().secret(1, 0, 0), -3);
        due("six people", of("sea 1;person;person;person;person;person;person;").secret(63, 0, 0), NONE);
        due("six people", of("sea 1;person;person;person;person;person;person;").secret(64, 0, 0), -3);
    }

    private static void widest() {
        sentence(28, "The BEACH from which a CALL now has most HEARERS within n HOURS, the first.");
        HallShells x = of("sea 3;current 0 2 takes 9;gale 39;person at 2;person at 1;person at 0;person at 2;");
        due("0: nobody from any, the first", x.widest(0), 0);
        due("1: two from 2", x.widest(1), 2);
        due("47", x.widest(47), 2);
        due("48: three from 0", x.widest(48), 0);
        due("alike: the first", of("sea 3;person at 1;person at 2;").widest(9), 1);
        due("no people", new HallShells().widest(48), 0);
        due("the last of six", of("sea 6;person at 5;").widest(1), 5);
        due("none of six", of("sea 6;person;").widest(48), 0);
        sentence(28, "-3.");
        bounds("n", n -> x.widest(n), 0, 48, -3);
    }

    private static void shutTerm() {
        sentence(TERMS, "To SHUT currents for a CALL now from a BEACH to a person within n HOURS: the fewest that, shut for good, leave that person"
            + " no HEARER of it, of like ones the least set as bits.");
        String text = "sea 4;current 0 1 takes 1;current 0 2 takes 1;current 1 3 takes 1;current 2 3 takes 2;person at 3;";
        HallShells x = of(text);
        due("within 1 it hears nothing", x.shut(0, 0, 1, 1), 0);
        due("within 2 by 0 and 2: the least", x.shut(0, 0, 2, 1), 1);
        due("within 3 by two ways: 0 and 1 are the least", x.shut(0, 0, 3, 1), 3);
        due("from 1", x.shut(1, 0, 48, 1), 4);
        x = of("sea 3;current 0 1 takes 1;current 0 1 takes 2;current 1 2 takes 1;person at 2;");
        due("one that is last, not two that are first", x.shut(0, 0, 9, 1), 4);
        due("one of them within 2", x.shut(0, 0, 2, 1), 1);
        StringBuilder ten = new StringBuilder("sea 2;person at 1;");
        for (int k = 0; k < 10; k++) {
            ten.append("current 0 1 takes 9;");
        }
        x = of(ten.toString());
        due("all ten", x.shut(0, 0, 9, 1), 1023);
        due("all ten", x.shut(0, 0, 9, 0), 10);
        due("none within 8", x.shut(0, 0, 8, 0), 0);
    }

    private static void shut() {
        sentence(29, "To SHUT currents, what 0: how many, 1: which, as bits; NONE: none do.");
        HallShells x = of("sea 3;current 1 0 takes 1;current 0 1 takes 9;current 1 2 takes 1;person at 0;person at 2;person at 1 deaf;gale 38;");
        due("how many", x.shut(0, 1, 48, 0), 1);
        due("which", x.shut(0, 1, 48, 1), 2);
        due("within 47", x.shut(0, 1, 47, 0), 0);
        due("within 47", x.shut(0, 1, 47, 1), 0);
        due("at home", x.shut(0, 0, 1, 0), NONE);
        due("at home", x.shut(0, 0, 1, 1), NONE);
        due("at home, within 0", x.shut(0, 0, 0, 0), 0);
        due("deaf", x.shut(1, 2, 48, 0), 0);
        due("no currents", of("sea 1;person at 0;").shut(0, 0, 1, 0), NONE);
        due("no currents", of("sea 1;person;").shut(0, 0, 1, 0), 0);
        sentence(29, "-2: the BEACH, the person, what; -3.");
        bounds("beach", b -> x.shut(b, 0, 0, 0), 0, 2, -2);
        bounds("person", p -> x.shut(0, p, 0, 0), 0, 2, -2);
        bounds("what", what -> x.shut(0, 0, 0, what), 0, 1, -2);
        bounds("n", n -> x.shut(0, 0, n, 0), 0, 48, -3);
        due("-2 ahead of -3", x.shut(0, 0, 49, 2), -2);
        due("-3 ahead of NONE", x.shut(0, 0, 49, 0), -3);
    }

    private static void takeTerm() {
        sentence(TERMS, "To TAKE shells: likewise the fewest that, laid down, do.");
        HallShells x = of("sea 3;current 0 1 takes 1;current 1 2 takes 1;person;person;shell 0 by 0;shell 1 by 0;shell 0 by 1;shell 2 by 0;shell 0;shell 0 by 0;");
        due("within 0 none", x.take(0, 0, 0, 1), 0);
        due("within 1: 0, 1 and 5", x.take(0, 0, 1, 1), 35);
        due("within 2: 3 too", x.take(0, 0, 2, 1), 43);
        due("from 1 within 1", x.take(1, 0, 1, 1), 10);
        due("the other one's", x.take(0, 1, 48, 1), 4);
        due("from 1 it hears nothing", x.take(1, 1, 48, 1), 0);
        StringBuilder eight = new StringBuilder("sea 2;person;current 0 1 takes 9;gale 39;");
        for (int k = 0; k < 8; k++) {
            eight.append("shell 1 by 0;");
        }
        due("all eight", of(eight.toString()).take(0, 0, 48, 1), 255);
        due("none", of(eight.toString()).take(0, 0, 47, 1), 0);
    }

    private static void take() {
        sentence(30, "To TAKE shells, what 0: how many, 1: which, as bits; NONE: none do.");
        HallShells x = of("sea 2;person at 0;person;person deaf;shell 0 by 0;shell 0;shell 0 by 1;shell 0 by 2;shell 0 by 1;");
        due("how many", x.take(0, 1, 1, 0), 2);
        due("which", x.take(0, 1, 1, 1), 20);
        due("at home", x.take(0, 0, 1, 0), NONE);
        due("at home", x.take(0, 0, 1, 1), NONE);
        due("at home, within 0", x.take(0, 0, 0, 1), 0);
        due("deaf", x.take(0, 2, 1, 0), 0);
        due("from elsewhere", x.take(1, 1, 48, 0), 0);
        sentence(30, "Codes as shut().");
        bounds("beach", b -> x.take(b, 0, 0, 0), 0, 1, -2);
        bounds("person", p -> x.take(0, p, 0, 0), 0, 2, -2);
        bounds("what", what -> x.take(0, 0, 0, what), 0, 1, -2);
        bounds("n", n -> x.take(0, 0, n, 0), 0, 48, -3);
        due("-2 ahead of -3", x.take(0, 0, 49, 2), -2);
        due("-3 ahead of NONE", x.take(0, 0, 49, 0), -3);
    }

    private static void needs() {
        sentence(31, "Currents each of which alone, shut for good, makes fewer HEARERS of a CALL now from a BEACH within n HOURS, as bits.");
        HallShells x = of("sea 4;current 0 1 takes 1;current 1 2 takes 1;current 0 2 takes 9;current 2 3 takes 1;gale 38;"
            + "person at 1;person at 2;person at 3;");
        due("within 38", x.needs(0, 38), 0);
        due("within 39", x.needs(0, 39), 1);
        due("within 40", x.needs(0, 40), 3);
        due("within 47: 2 to 3 too", x.needs(0, 47), 11);
        due("within 48: 2 and 3 by another way too", x.needs(0, 48), 9);
        due("within 0", x.needs(1, 0), 0);
        due("no currents", new HallShells().needs(0, 48), 0);
        due("now, within 1", of("sea 3;current 0 2 takes 1;current 0 1 takes 1;person at 1;").needs(0, 1), 2);
        due("one of two ways", of("sea 2;current 0 1 takes 1;current 0 1 takes 1;person at 1;").needs(0, 48), 0);
        sentence(31, "-2; -3.");
        bounds("beach", b -> x.needs(b, 0), 0, 3, -2);
        bounds("n", n -> x.needs(0, n), 0, 48, -3);
        due("the beach ahead of n", x.needs(4, 49), -2);
    }

    private static void spiesTerm() {
        sentence(TERMS, "SPIES: k BEACHES to which a WORD WHISPERED now at any BEACH comes within n HOURS (0: where it is WHISPERED): the k by which"
            + " that is so from most BEACHES, of like ones the least set as bits.");
        HallShells x = of("sea 4;current 0 1 takes 9;current 1 2 takes 1;current 3 2 takes 1;gale 38;");
        due("within 0 each by itself: the least", x.spies(1, 0, 1), 1);
        due("within 0", x.spies(3, 0, 1), 7);
        due("within 0", x.spies(3, 0, 0), 3);
        due("within 38", x.spies(1, 38, 1), 1);
        due("within 39: 2", x.spies(1, 39, 1), 4);
        due("from 1, 2, 3", x.spies(1, 39, 0), 3);
        due("two: 0 and 2", x.spies(2, 39, 1), 5);
        due("within 47: 2 from 1, 2, 3", x.spies(1, 47, 0), 3);
        due("within 48: 2 from all", x.spies(1, 48, 0), 4);
        x = of("sea 2;current 0 1 takes 1;current 1 0 takes 1;");
        due("alike: the least", x.spies(1, 1, 1), 1);
    }

    private static void spies() {
        sentence(32, "SPIES, what 0: from how many BEACHES it is so, 1: the set, as bits.");
        HallShells x = of("sea 3;current 2 1 takes 1;");
        due("from how many", x.spies(1, 1, 0), 2);
        due("the set", x.spies(1, 1, 1), 2);
        due("all", x.spies(3, 0, 0), 3);
        due("all", x.spies(3, 0, 1), 7);
        due("one beach", new HallShells().spies(1, 48, 1), 1);
        sentence(32, "-2: what; -3: k isn't 1 to how many BEACHES there are, n.");
        bounds("what", what -> x.spies(1, 0, what), 0, 1, -2);
        bounds("k", k -> x.spies(k, 0, 0), 1, 3, -3);
        bounds("k of six", k -> of("sea 6;").spies(k, 0, 0), 1, 6, -3);
        bounds("n", n -> x.spies(1, n, 0), 0, 48, -3);
        due("what ahead of k and n", x.spies(0, 49, 2), -2);
    }

    private static void watch() {
        sentence(33, "The fewest BEACHES by which, as SPIES, it is so from all of them.");
        HallShells x = of("sea 6;current 0 1 takes 1;current 2 1 takes 2;current 3 1 takes 3;current 4 1 takes 4;current 5 1 takes 9;gale 39;");
        due("0: all six", x.watch(0), 6);
        due("39: none comes in", x.watch(39), 6);
        for (int n = 40; n <= 43; n++) {
            due("" + n, x.watch(n), 45 - n);
        }
        due("47", x.watch(47), 2);
        due("48", x.watch(48), 1);
        due("one beach", new HallShells().watch(0), 1);
        sentence(33, "-3: n.");
        bounds("n", n -> x.watch(n), 0, 48, -3);
    }

    /** 0 and 1 live together, 2 has a shell from there and 0 one from where 2 lives; 3 is inland, 4 deaf. */
    private static final String TALK = "sea 3;person at 0;person at 0;person at 1;person;person at 0 deaf;"
        + "shell 1 by 0;shell 0 by 2;shell 1 by 3;shell 1 by 4;shell 0;";

    private static void oneHears() {
        sentence(TERMS, "One HEARS another: it holds a shell from the BEACH where the other one lives, or lives there itself.");
        HallShells x = of(TALK);
        due("0 hears 1 and 4 where it lives, 2 by a shell", x.hears(0), 22);
        due("1 hears 0 and 4", x.hears(1), 17);
        due("2 hears 0, 1, 4 by a shell", x.hears(2), 19);
        due("3 hears 2", x.hears(3), 4);
        x.give(0, 1);
        due("a shell given away", x.hears(0), 18);
        due("is heard by another", x.hears(1), 21);
        x.lay(1);
        due("a shell laid down", x.hears(2), 0);
        due("two inland don't live together", of("sea 1;person;person;shell 0 by 0;").hears(0), 0);
    }

    private static void hears() {
        sentence(34, "People whom a person HEARS (others than itself, deaf or not), as bits (0, if it is deaf).");
        HallShells x = of("sea 1;person at 0;person at 0 deaf;person at 0;person at 0;person;person at 0;shell 0 by 1;shell 0 by 4;");
        due("others, deaf or not", x.hears(0), 46);
        due("deaf", x.hears(1), 0);
        due("the last", x.hears(5), 15);
        due("inland", x.hears(4), 47);
        due("alone", of("sea 1;person at 0;shell 0 by 0;").hears(0), 0);
        sentence(34, "-2.");
        bounds("person", p -> x.hears(p), 0, 5, -2);
        due("no people", new HallShells().hears(0), -2);
    }

    private static void mutual() {
        sentence(35, "How many twos of people HEAR each other.");
        due("no people", new HallShells().mutual(), 0);
        due("one", of("sea 1;person at 0;").mutual(), 0);
        due("six together", of("sea 1;person at 0;person at 0;person at 0;person at 0;person at 0;person at 0;").mutual(), 15);
        due("a deaf one", of("sea 1;person at 0;person at 0 deaf;").mutual(), 0);
        due("one way alone", of("sea 2;person at 0;person at 1;shell 1 by 0;").mutual(), 0);
        due("both ways", of("sea 2;person at 0;person at 1;shell 1 by 0;shell 0 by 1;").mutual(), 1);
        due("0 and 1, 0 and 2", of(TALK).mutual(), 2);
    }

    private static void passes() {
        sentence(36, "The fewest who pass on what a person says to another one: how many HEAR it one behind the other, from the one who"
            + " HEARS the first to the other one (1: that one itself).");
        HallShells x = of("sea 6;person at 0;person at 1;person at 2;person at 3;person at 4;person at 5;"
            + "shell 0 by 1;shell 1 by 2;shell 2 by 3;shell 3 by 4;shell 4 by 5;shell 0 by 3;");
        due("that one itself", x.passes(0, 1), 1);
        due("one more", x.passes(0, 2), 2);
        due("by a shell of its own", x.passes(0, 3), 1);
        due("by 3 and 4", x.passes(0, 5), 3);
        x.lay(5);
        due("by all", x.passes(0, 5), 5);
        due("by all from 1", x.passes(1, 5), 4);
        sentence(36, "NONE: it can't be passed on; -2: people, both one.");
        due("back", x.passes(5, 0), NONE);
        x.lay(2);
        due("broken", x.passes(0, 5), NONE);
        due("to a deaf one", of("sea 1;person at 0;person at 0 deaf;").passes(0, 1), NONE);
        due("from a deaf one", of("sea 1;person at 0;person at 0 deaf;").passes(1, 0), 1);
        due("by a deaf one", of("sea 3;person at 0;person at 1 deaf;person at 2;shell 0 by 1;shell 1 by 2;").passes(0, 2), NONE);
        due("from inland", of("sea 1;person;person at 0;").passes(0, 1), NONE);
        bounds("who", p -> x.passes(p, 1), 0, 5, -2);
        bounds("to whom", q -> x.passes(1, q), 0, 5, -2);
        for (int p = 0; p < 6; p++) {
            due("both one", x.passes(p, p), -2);
        }
        due("no people", new HallShells().passes(0, 1), -2);
    }

    private static void gift() {
        sentence(37, "The shell that, GIVEN to a person who doesn't hold it, makes most twos HEAR each other then, if more than now: 10 times"
            + " the shell and the person, the first.");
        HallShells x = of("sea 3;person at 0;person at 1;person at 1;person at 2;shell 0 by 1;shell 0 by 2;shell 0 by 3;shell 2;shell 1;");
        due("shell 4 to 0 makes two twos more", x.gift(), 40);
        x.give(4, 0);
        due("then shell 3 to 0", x.gift(), 30);
        due("as many now as then", of("sea 2;person at 0;person at 1;shell 1 by 0;shell 0 by 1;").gift(), NONE);
        due("the first shell", of("sea 2;person at 0;person at 1;shell 0 by 1;shell 1;shell 1;").gift(), 10);
        due("the first person", of("sea 2;person at 0;person at 0;person at 1;shell 1;shell 0 by 2;").gift(), 0);
        due("taken from another", of("sea 2;person;person at 0;person at 1;shell 1 by 0;shell 0 by 2;").gift(), 1);
        due("shell 7 to person 5", of("sea 2;person;person;person;person;person at 0;person at 1;shell 1 by 4;"
            + "shell 1;shell 1;shell 1;shell 1;shell 1;shell 1;shell 0;").gift(), 75);
        sentence(37, "NONE: none does.");
        due("no shells", of("sea 1;person at 0;person at 0;").gift(), NONE);
        due("no people", of("sea 1;shell 0;").gift(), NONE);
        due("it hears them already", of("sea 1;person at 0;person at 0;shell 0;").gift(), NONE);
        due("one way alone", of("sea 2;person at 0;person at 1;shell 1;shell 1;").gift(), NONE);
        due("a deaf one", of("sea 2;person at 0 deaf;person at 1;shell 1;shell 0 by 1;").gift(), NONE);
    }
}
