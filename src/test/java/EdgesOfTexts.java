/** Sentences of how a sea is told: the text, its tokens, its faults, its bounds. */
final class EdgesOfTexts extends Edges {
    private static final int TERMS = Document.TERMS;

    static void run() {
        wholeTexts();
        flags();
        truths();
        sums();
        nested();
        beaches();
        currents();
        people();
        shells();
        galeAndHour();
        laterOnes();
        tokens();
        noTokens();
        wrongPlaces();
        wrongNumbers();
        tooMany();
    }

    /** Whether current 0 of a sea with this law is open. */
    private static void open(String law, int want) {
        HallShells x = of("sea 3;current 0 1 takes 4;hour 7;open:" + law + ";");
        due("open: " + law, x.current(0, 3), want);
    }

    /** How beach 2 of a sea with this law sounds. */
    private static void sounds(String law, int want) {
        HallShells x = of("sea 3;hour 7;sounds:" + law + ";");
        due("sounds: " + law, x.sound(2, 0), want);
    }

    private static void wholeTexts() {
        sentence(TERMS, "THE SEA is a TEXT of at most 900 bytes (without one: 1 BEACH): sea N ; { LINE ; } LINE: current N N"
            + " takes N | person { FLAG } | shell N [ by N ] | sounds : SUM | open : TRUTH | listens : TRUTH | gale N | hour N.");
        due("beaches without a text", new HallShells().count(0), 1);
        due("no second one", new HallShells().whisper(1), -11);
        HallShells x = of("sea 5;" + " ".repeat(887) + "hour 9;");
        due("hour of a text of 900 bytes", x.count(5), 9);
        x = of("sea 1;sounds:" + "0+".repeat(442) + "7;\n");
        due("900 bytes of one law", x.sound(0, 0), 7);
        fault("sea 1;sounds:" + "0+".repeat(442) + "7;;", 2, 899);
        fault("sea 1;sounds:" + "0+".repeat(443) + "7", 2, 900);
        due("sea alone", of("sea 1;").count(9), 1);
        x = of("sea 2 ; current 0 1 takes 3 ; person ; shell 1 by 0 ; shell 1 ; sounds : 4 ; open : 1 = 0 ; listens : 0 = 1 ; gale 5 ; hour 6 ;");
        due("lines", x.count(9), 10);
        due("takes", x.current(0, 2), 3);
        due("open", x.current(0, 3), 0);
        due("no flags", x.person(0, 0), NONE);
        due("listens", x.person(0, 4), 0);
        due("by", x.shell(0, 1), 0);
        due("without by", x.shell(1, 1), NONE);
        due("sounds", x.sound(1, 0), 4);
        due("gale", x.count(6), 5);
        due("hour", x.count(5), 6);
        fault("sea 1", 2, 5);
        fault("sea 1;hour 3", 2, 12);
    }

    private static void flags() {
        sentence(TERMS, "FLAG: at N | deaf.");
        HallShells x = of("sea 2;person;person at 1;person deaf;person at 1 deaf;person deaf at 1;person deaf deaf at 0 at 1;");
        int[] homes = {NONE, 1, NONE, 1, 1, 1};
        int[] deaf = {0, 0, 1, 1, 1, 1};
        for (int p = 0; p < 6; p++) {
            due("home of " + p, x.person(p, 0), homes[p]);
            due("deaf " + p, x.person(p, 1), deaf[p]);
        }
        fault("sea 2;person at;", 2, 15);
        fault("sea 2;person at deaf;", 2, 16);
        fault("sea 2;person deaf 1;", 2, 18);
        fault("sea 2;person by 1;", 2, 13);
    }

    private static void truths() {
        sentence(TERMS, "TRUTH: BOTH { or BOTH }; BOTH: UNIT { and UNIT }; UNIT: not UNIT, [ TRUTH ], or SUM, one of = < >, SUM.");
        open("1 = 1", 1);
        open("1 = 2", 0);
        open("2 = 1", 0);
        open("1 < 1", 0);
        open("1 < 2", 1);
        open("2 < 1", 0);
        open("1 > 1", 0);
        open("2 > 1", 1);
        open("1 > 2", 0);
        open("1 = 0 or 1 = 1", 1);
        open("1 = 1 or 1 = 0", 1);
        open("1 = 0 or 1 = 0 or 1 = 0", 0);
        open("1 = 0 or 1 = 0 or 1 = 1", 1);
        open("1 = 1 or 1 = 1", 1);
        open("1 = 1 and 1 = 1 and 1 = 1", 1);
        open("1 = 1 and 1 = 1 and 1 = 0", 0);
        open("1 = 0 and 1 = 1", 0);
        open("1 = 0 and 1 = 0", 0);
        // and binds more than or.
        open("1 = 1 or 1 = 1 and 1 = 0", 1);
        open("1 = 0 and 1 = 0 or 1 = 1", 1);
        open("[1 = 1 or 1 = 1] and 1 = 0", 0);
        // not takes one unit.
        open("not 1 = 1", 0);
        open("not 1 = 0", 1);
        open("not 1 = 1 or 1 = 1", 1);
        open("not 1 = 0 and 1 = 0", 0);
        open("not [1 = 0 and 1 = 0]", 1);
        open("not not 1 = 1", 1);
        open("not 1 = 1 and 1 = 1", 0);
        open("not [1 = 1 or 1 = 0]", 0);
        open("1 + 1 = 3 - 1", 1);
        fault("sea 1;open:;", 2, 11);
        fault("sea 1;open:1;", 2, 12);
        fault("sea 1;open:1=1=1;", 2, 14);
        fault("sea 1;open:1=1 or;", 2, 17);
        fault("sea 1;open:1=1 and;", 2, 18);
        fault("sea 1;open:1=1 or;hour 1;", 2, 17);
        fault("sea 1;open:1=1 and;hour 1;", 2, 18);
        fault("sea 1;open:not;hour 1;", 2, 14);
        fault("sea 1;open:and 1=1;", 2, 11);
        fault("sea 1;open:[];", 2, 12);
        fault("sea 1;open:[1=1;", 2, 15);
    }

    private static void sums() {
        sentence(TERMS, "SUM: TERM { + TERM | - TERM }; TERM: ATOM { * ATOM }; ATOM: N, ( SUM ), hour, gale, in sounds beach,"
            + " in open from, to, takes, in listens who, home, words too.");
        sounds("0", 0);
        sounds("2 + 3 * 4", 14);
        sounds("2 * 3 + 4", 10);
        sounds("(2 + 3) * 4", 20);
        sounds("30 - 3 - 2", 25);
        sounds("30 - (3 - 2)", 29);
        sounds("30 - 3 + 2", 29);
        sounds("2 * 3 * 4", 24);
        sounds("beach * 10 + hour - gale", 27);
        open("hour = 7 and gale = 0 and from = 0 and to = 1 and takes = 4", 1);
        HallShells x = of("sea 3;hour 7;person at 0;person at 2;listens: hour = 7 and gale = 0 and who = 1 and home = 2 and words = 0;");
        due("person 0", x.person(0, 4), 0);
        due("person 1", x.person(1, 4), 1);
        fault("sea 1;sounds:;", 2, 13);
        fault("sea 1;sounds:1+;", 2, 15);
        fault("sea 1;sounds:1+;hour 1;", 2, 15);
        fault("sea 1;sounds:1-;hour 1;", 2, 15);
        fault("sea 1;sounds:1*;hour 1;", 2, 15);
        fault("sea 1;sounds:(1;hour 1;", 2, 15);
        fault("sea 1;sounds:*1;", 2, 13);
        fault("sea 1;sounds:-1;", 2, 13);
        fault("sea 1;sounds:();", 2, 14);
    }

    private static void nested() {
        sentence(TERMS, "At most six of not [ ( within one another.");
        sounds("((((((5))))))", 5);
        sounds("((((((5)))))) + ((((((6))))))", 11);
        open("[[[[[[1 = 1]]]]]]", 1);
        open("not not not not not not 1 = 1", 1);
        open("not [not [((1)) = ((1))]]", 1);
        fault("sea 1;sounds:(((((((5)))))));", 4, 19);
        fault("sea 1;open:[[[[[[[1=1]]]]]]];", 4, 17);
        fault("sea 1;open:not not not not not not not 1=1;", 4, 35);
        fault("sea 1;open:not[not[not[(1)=1]]];", 4, 23);
        fault("sea 1;open:not[not[((((1)))=1]];", 4, 21);
    }

    private static void beaches() {
        sentence(TERMS, "sea: BEACHES, 1 to 6, numbered from 0 on.");
        for (int n = 1; n <= 6; n++) {
            HallShells x = of("sea " + n + ";");
            due("beaches", x.count(0), n);
            due("none below the first", x.sound(-1, 0), -2);
            due("the first", x.sound(0, 0), 0);
            due("the last", x.sound(n - 1, 0), 10 * (n - 1));
            due("none behind the last", x.sound(n, 0), -2);
        }
        due("zeros ahead", of("sea 006;").count(0), 6);
        fault("sea 0;", 3, 4);
        fault("sea 7;", 3, 4);
        fault("sea 10;", 3, 4);
        fault("sea 999;", 3, 4);
    }

    private static void currents() {
        sentence(TERMS, "current: from a BEACH to another one, HOURS it takes, 1 to 9; numbered from 0 on, 10 at most.");
        StringBuilder text = new StringBuilder("sea 6;");
        for (int k = 0; k < 10; k++) {
            text.append("current ").append(k % 6).append(" ").append((k + 5) % 6).append(" takes ").append(1 + k % 9).append(";");
        }
        HallShells x = of(text.toString());
        due("currents", x.count(1), 10);
        for (int k = 0; k < 10; k++) {
            due("from of " + k, x.current(k, 0), k % 6);
            due("to of " + k, x.current(k, 1), (k + 5) % 6);
            due("takes of " + k, x.current(k, 2), 1 + k % 9);
        }
        due("none below the first", x.current(-1, 0), -2);
        due("none behind the last", x.current(10, 0), -2);
        due("none told", of("sea 6;").current(0, 0), -2);
        fault("sea 3;current 3 0 takes 1;", 3, 14);
        fault("sea 3;current 0 3 takes 1;", 3, 16);
        fault("sea 3;current 2 2 takes 1;", 3, 16);
        fault("sea 3;current 0 1 takes 0;", 3, 24);
        fault("sea 3;current 0 1 takes 10;", 3, 24);
        fault("sea 1;current 0 0 takes 1;", 3, 16);
        fault(text + "current 0 1 takes 1;", 4, text.length());
    }

    private static void people() {
        sentence(TERMS, "person: lives by a BEACH, or inland; deaf: hears nothing; numbered from 0 on, 6 at most.");
        String six = "sea 3;person at 0;person at 2;person;person deaf at 1;person at 0 deaf;person at 1;";
        HallShells x = of(six);
        due("people", x.count(2), 6);
        int[] homes = {0, 2, NONE, 1, 0, 1};
        for (int p = 0; p < 6; p++) {
            due("home of " + p, x.person(p, 0), homes[p]);
        }
        for (int b = 0; b < 3; b++) {
            x.whisper(b);
        }
        x.hours(48);
        int[] heard = {1, 4, 0, 0, 0, 2};
        for (int p = 0; p < 6; p++) {
            due("heard by " + p, x.person(p, 2), heard[p]);
        }
        due("none below the first", x.person(-1, 0), -2);
        due("none behind the last", x.person(6, 0), -2);
        due("none told", of("sea 6;").person(0, 0), -2);
        fault("sea 3;person at 3;", 3, 16);
        fault(six + "person;", 4, six.length());
    }

    private static void shells() {
        sentence(TERMS, "shell: the BEACH it is from, by: who holds it (a person told ahead; nobody without); numbered from 0 on, 8 at most.");
        String eight = "sea 6;person;person;shell 5 by 1;shell 0;shell 1 by 0;shell 2;shell 3;person;shell 4 by 2;shell 5;shell 0 by 1;";
        HallShells x = of(eight);
        due("shells", x.count(3), 8);
        int[] from = {5, 0, 1, 2, 3, 4, 5, 0};
        int[] by = {1, NONE, 0, NONE, NONE, 2, NONE, 1};
        for (int k = 0; k < 8; k++) {
            due("from of " + k, x.shell(k, 0), from[k]);
            due("by of " + k, x.shell(k, 1), by[k]);
        }
        due("none below the first", x.shell(-1, 0), -2);
        due("none behind the last", x.shell(8, 0), -2);
        due("none told", of("sea 6;person;").shell(0, 0), -2);
        fault("sea 5;shell 5;", 3, 12);
        fault("sea 5;shell 4 by 0;person;", 3, 17);
        fault("sea 5;person;shell 4 by 1;person;", 3, 24);
        fault(eight + "shell 0;", 4, eight.length());
    }

    private static void galeAndHour() {
        sentence(TERMS, "gale: HOURS it blows still, 0 to 99 (0).");
        due("0", of("sea 1;gale 0;").count(6), 0);
        due("99", of("sea 1;gale 99;").count(6), 99);
        due("not told", of("sea 1;").count(6), 0);
        fault("sea 1;gale 100;", 3, 11);
        fault("sea 1;gale 999;", 3, 11);
        sentence(TERMS, "hour: the first one, 0 to 999 (0).");
        due("0", of("sea 1;hour 0;").count(5), 0);
        due("999", of("sea 1;hour 999;").count(5), 999);
        due("not told", of("sea 1;").count(5), 0);
        fault("sea 1;hour 1000;", 1, 11);
        HallShells x = of("sea 1;hour 999;");
        x.hours(1);
        due("it goes on", x.count(5), 1000);
    }

    private static void laterOnes() {
        sentence(TERMS, "Later ones of laws, gale, hour, at strike.");
        HallShells x = of("sea 3;gale 7;hour 8;gale 0;hour 0;person at 2 at 1 at 0;");
        due("gale", x.count(6), 0);
        due("hour", x.count(5), 0);
        due("at", x.person(0, 0), 0);
        x = of("sea 2;current 0 1 takes 1;person;sounds:1;open:1=1;listens:1=1;sounds:hour+2;open:hour=1;listens:hour=1;");
        due("sounds", x.sound(0, 0), 2);
        due("open", x.current(0, 3), 0);
        due("listens", x.person(0, 4), 0);
        x.hours(1);
        due("sounds", x.sound(0, 0), 3);
        due("open", x.current(0, 3), 1);
        due("listens", x.person(0, 4), 1);
    }

    private static void tokens() {
        sentence(TERMS, "TOKENS, as long as they go on, between them blanks (10, 32): words (small letters), N (1 to 3 digits),"
            + " the signs ; : + - * ( ) [ ] = < >.");
        fine("sea1;");
        fine("\n \nsea\n1\n;\n");
        fine("sea 2;person at1deaf;current0 1takes9;");
        fine("sea 001;");
        fine("sea 2;sounds:1+2-3*(4);open:[1=2]or 1<2 and 2>1;");
        fault("seas 1;", 2, 0);
        fault("se a 1;", 2, 0);
        fault("sea 2;sounds:1 2;", 2, 15);
        fault("sea 2;sounds:12;open:hour12=1;", 2, 25);
        fault("sea 2;open:1=1ornot1=1;", 2, 14);
        for (int sign = 0; sign < 256; sign++) {
            char c = (char) sign;
            boolean blank = sign == 10 || sign == 32;
            boolean begins = c >= 'a' && c <= 'z' || c >= '0' && c <= '9' || ";:+-*()[]=<>".indexOf(c) >= 0;
            fault("sea 1;" + c, blank ? 0 : begins ? 2 : 1, blank ? NONE : 6);
            if (c >= '0' && c <= '9') {
                fault("sea 1" + c + ";", 3, 4);
            } else if (c != ';') {
                fault("sea 1" + c + ";", blank ? 0 : begins ? 2 : 1, blank ? NONE : 5);
            }
        }
    }

    private static void noTokens() {
        sentence(TERMS, "FAULTS, the first along the text, of one TOKEN the least kind: 1 no TOKEN begins so (4 digits and more: at their first).");
        fault("SEA 1;", 1, 0);
        fault("sea 7;SEA", 3, 4);
        fault("sea 1;! sea 9", 1, 6);
        fault("sea 1;sea!", 2, 6);
        fault("sea 1;hour 999;", 0, NONE);
        fault("sea 1;hour 0001;", 1, 11);
        fault("sea 1;hour 12345678901234567890;", 1, 11);
        fault("sea 1;sounds:1000;", 1, 13);
        fault("sea 1000;", 1, 4);
        fault("sea 1;1234;", 1, 6);
        fault("sea 1;sounds:((((((1234", 1, 19);
        fault("sea 1;sounds:(((((((1234", 4, 19);
        fault("1".repeat(900), 1, 0);
        fault(" ".repeat(899) + "!", 1, 899);
        fault("sea 1;" + "\n".repeat(890) + "1000", 1, 896);
        fault("sea 1;sounds:1 + 2_3", 1, 18);
    }

    private static void wrongPlaces() {
        sentence(TERMS, "2 it can't stand there (the end: the text's length; sea must be told first, and once; a word of another law).");
        fault("", 2, 0);
        fault(" ", 2, 1);
        fault("\n".repeat(900), 2, 900);
        fault(" ".repeat(899) + ";", 2, 899);
        fault(" ".repeat(899) + "s", 2, 899);
        fault("sea 1;" + " ".repeat(891) + "hou", 2, 897);
        fault("sea 1;" + " ".repeat(890) + "hour", 2, 900);
        fault("sea", 2, 3);
        fault("sea 1 ", 2, 6);
        fault("sea 1;hour", 2, 10);
        fault("sea 1;hour \n", 2, 12);
        fault("hour 1;sea 1;", 2, 0);
        fault("; sea 1;", 2, 0);
        fault("sea 1;sea 1;", 2, 6);
        fault("sea 1;person;sea 1;", 2, 13);
        String[] words = {"beach", "from", "to", "takes", "who", "home", "words"};
        String[] laws = {"sounds: ", "open: 1 = ", "listens: 1 = "};
        int[] lawOfWord = {0, 1, 1, 1, 2, 2, 2};
        for (int law = 0; law < 3; law++) {
            for (int i = 0; i < words.length; i++) {
                boolean own = lawOfWord[i] == law;
                fault("sea 1;" + laws[law] + words[i] + ";", own ? 0 : 2, own ? NONE : 6 + laws[law].length());
            }
        }
        fault("sea 1;wave;", 2, 6);
        fault("sea 1;sounds:wave;", 2, 13);
    }

    private static void wrongNumbers() {
        sentence(TERMS, "3 an N out of its bounds (a current to the BEACH it is from).");
        fault("sea 0", 3, 4);
        fault("sea 2;current 2 1 takes 1;", 3, 14);
        fault("sea 2;current 1 2 takes 1;", 3, 16);
        fault("sea 2;current 1 1 takes 1;", 3, 16);
        fault("sea 2;current 1 001 takes 1;", 3, 16);
        fault("sea 2;current 1 0 takes 0;", 3, 24);
        fault("sea 2;current 1 0 takes 10;", 3, 24);
        fault("sea 2;person at 2;", 3, 16);
        fault("sea 2;shell 2;", 3, 12);
        fault("sea 2;shell 1 by 0;", 3, 17);
        fault("sea 2;gale 100;", 3, 11);
        fine("sea 2;sounds:999;");
    }

    private static void tooMany() {
        sentence(TERMS, "4 the first TOKEN of an 11th current, a 7th person, a 9th shell; a seventh of not [ (.");
        String currents = "sea 2;" + "current 0 1 takes 1;".repeat(10);
        fine(currents);
        fault(currents + "current", 4, 206);
        fault(currents + "hour 1;current 7 7 takes 77;", 4, 213);
        String people = "sea 2;" + "person;".repeat(6);
        fine(people);
        fault(people + "person", 4, 48);
        fault(people + "shell 0 by 5;person at 9;", 4, 61);
        String shells = "sea 2;" + "shell 1;".repeat(8);
        fine(shells);
        fault(shells + "shell", 4, 70);
        fault(shells + "shell 9;", 4, 70);
        fault("sea 1;open:1=((((((((1", 4, 19);
        fault("sea 1;open:[[[not not not[", 4, 25);
        fault("sea 1;listens:[[[[[[not", 4, 20);
        // Where it can't stand at all, that is less.
        fault("sea 1;open:[[[[[[1=1[", 2, 20);
        fault("sea 1;sounds:((((((not", 2, 19);
    }
}
