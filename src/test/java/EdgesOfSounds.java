import java.util.function.IntUnaryOperator;

/** Sentences of sounds that were heard, of beaches that sound alike, and of pairs. */
final class EdgesOfSounds extends Edges {
    private static final int TERMS = Document.TERMS;

    static void run() {
        heardTerm();
        slipsTerm();
        fits();
        slips();
        likeliest();
        look();
        unlike();
        pairsTerm();
        pairs();
    }

    /** The codes that all calls on sounds in a tray have. */
    private static void codes(String call, IntUnaryOperator answers, HallShells x) {
        bounds(call + ": tray", answers, 0, 3, -2);
        for (int tray = 0; tray < 4; tray++) {
            due(call + ": missing", answers.applyAsInt(tray), -6);
        }
        int[] sizes = {0, 1, 24, 25, 40};
        for (int size : sizes) {
            x.numbers(3, 0, size);
            boolean few = size >= 1 && size <= 24;
            must((answers.applyAsInt(3) == -4) == !few, call + " of " + size + " numbers answered " + answers.applyAsInt(3));
        }
    }

    private static void heardTerm() {
        sentence(TERMS, "HEARD in a TRAY (1 to 24 numbers): SOUNDS of a shell in the HOURS from now on, this one first (as GALES will be).");
        HallShells x = of("sea 3;hour 22;gale 2;sounds: hour + beach * 30 * gale;");
        fill(x, 0, 0, 82);
        due("1 number: this hour", x.fits(0), 4);
        fill(x, 0, 0, 82, 83);
        due("both hours of the gale", x.fits(0), 4);
        fill(x, 0, 0, 82, 83, 60);
        due("no gale then", x.fits(0), 0);
        fill(x, 0, 0, 82, 83, 0, 1);
        due("hours 24 and 25", x.fits(0), 4);
        x.numbers(0, 0, 24);
        for (int i = 0; i < 24; i++) {
            x.write(0, i, i < 2 ? 52 + i : (22 + i) % 24);
        }
        due("24 numbers", x.fits(0), 2);
        x.write(0, 23, 22);
        due("the last is otherwise", x.fits(0), 0);
        x.numbers(0, 0, 25);
        due("25 numbers", x.fits(0), -4);
        x.numbers(0, 0, 0);
        due("0 numbers", x.fits(0), -4);
    }

    private static void slipsTerm() {
        sentence(TERMS, "SLIPS of a BEACH: in how many of these HOURS it sounds otherwise; NONE in the TRAY is none.");
        HallShells x = of("sea 2;");
        x.numbers(0, 3, 24);
        due("24 as it sounds", x.slips(0, 0), 0);
        due("24 otherwise", x.slips(0, 1), 24);
        for (int i = 0; i < 24; i++) {
            x.write(0, i, NONE);
        }
        due("24 of NONE", x.slips(0, 0), 0);
        due("24 of NONE", x.slips(0, 1), 0);
        x.write(0, 23, 10);
        due("the last", x.slips(0, 0), 1);
        due("the last", x.slips(0, 1), 0);
        x.write(0, 0, -2);
        due("-2 is a slip of all", x.slips(0, 1), 1);
        x.write(0, 0, 255);
        due("255 too", x.slips(0, 1), 1);
        x.write(0, 0, (1L << 32) + 10);
        due("10 and 2 to the 32 too", x.slips(0, 1), 1);
        x.write(0, 0, (1L << 32) - 1);
        due("and -1 of 32 bits alone", x.slips(0, 1), 1);
    }

    private static void fits() {
        sentence(38, "BEACHES that sounded so (no SLIPS), as bits.");
        HallShells x = of("sea 6;sounds: (beach - 4) * 7;");
        fill(x, 0, 0, 0);
        due("0 to 4", x.fits(0), 31);
        fill(x, 0, 0, 7);
        due("5", x.fits(0), 32);
        fill(x, 0, 0, NONE);
        due("all", x.fits(0), 63);
        fill(x, 0, 0, NONE, 1);
        due("none", x.fits(0), 0);
        fill(x, 0, 0, 14);
        due("as a seventh beach would sound", x.fits(0), 0);
        sentence(38, "-2: the TRAY; -6; -4: not 1 to 24 numbers.");
        HallShells y = of("sea 2;");
        codes("fits", tray -> y.fits(tray), y);
    }

    private static void slips() {
        sentence(39, "SLIPS of a BEACH.");
        HallShells x = of("sea 2;gale 1;");
        fill(x, 0, 1, 1, 0, 10, 10, NONE);
        due("0", x.slips(0, 0), 2);
        due("1", x.slips(0, 1), 2);
        x.gale(0);
        due("0 without the gale", x.slips(0, 0), 3);
        due("1 without the gale", x.slips(0, 1), 2);
        sentence(39, "-2: the TRAY, the BEACH; -6; -4.");
        HallShells y = of("sea 2;");
        codes("slips", tray -> y.slips(tray, 0), y);
        bounds("beach", b -> x.slips(0, b), 0, 1, -2);
        due("the beach ahead of missing", x.slips(1, 2), -2);
        x.numbers(1, 0, 40);
        due("the beach ahead of too many", x.slips(1, -1), -2);
    }

    private static void likeliest() {
        sentence(40, "The BEACH with the fewest SLIPS, the first.");
        HallShells x = of("sea 3;");
        fill(x, 0, 0, 20, 20, 10);
        due("2", x.likeliest(0), 2);
        fill(x, 0, 0, 20, 10);
        due("1 and 2: the first", x.likeliest(0), 1);
        fill(x, 0, 0, NONE);
        due("all: the first", x.likeliest(0), 0);
        x.numbers(0, 0, 24);
        for (int i = 0; i < 24; i++) {
            x.write(0, i, 55);
        }
        due("24 slips of all: the first", x.likeliest(0), 0);
        x.write(0, 23, 20);
        due("23 slips of 2", x.likeliest(0), 2);
        fill(x, 0, 0, 30);
        due("as a fourth beach would sound", x.likeliest(0), 0);
        x = of("sea 6;hour 23;gale 1;");
        fill(x, 0, 0, 51);
        due("the last of six", x.likeliest(0), 5);
        sentence(40, "Codes as fits().");
        HallShells y = of("sea 2;");
        codes("likeliest", tray -> y.likeliest(tray), y);
    }

    private static void look() {
        sentence(41, "The HOUR to come (in 0 to 99) in which the greatest number of BEACHES that fit and sound alike is least, the first:"
            + " in how many HOURS.");
        HallShells x = of("sea 3;gale 98;sounds: beach * (1 - gale) * (hour + 1);");
        fill(x, 0, 0, NONE);
        due("98", x.look(0), 98);
        x.gale(99);
        due("99, the last", x.look(0), 99);
        due("100 is too late: the first", unlikeIn100().look(0), 0);
        x = of("sea 6;sounds: beach * (1 - (hour - 3) * (hour - 3));");
        fill(x, 0, 0, NONE);
        due("in hour 3 all are apart", x.look(0), 3);
        x.hours(4);
        due("23 hours later again", x.look(0), 23);
        x = of("sea 4;sounds: (beach - 1) * hour;");
        fill(x, 0, 0, NONE, 0);
        due("0 and 1 alike for ever: the first hour", x.look(0), 0);
        fill(x, 0, 0, NONE);
        due("two alike behind this hour", x.look(0), 1);
        fill(x, 0, 0, NONE, 2);
        due("one alone fits", x.look(0), 0);
        x = of("sea 2;sounds: beach * hour;");
        fill(x, 0, 0, NONE);
        due("0 and 1 alike in this hour", x.look(0), 1);
        x = of("sea 3;sounds: beach * (3 - beach) * 20 + beach * hour * (hour - 1);");
        fill(x, 0, 0, 40);
        due("1 and 2 fit, and are apart in hour 2", x.look(0), 2);
        x = of("sea 6;sounds: 0;");
        fill(x, 0, 0, 0);
        due("all six alike for ever", x.look(0), 0);
        sentence(41, "NONE: none fits; else as fits().");
        fill(x, 0, 0, 1);
        due("none fits", x.look(0), NONE);
        HallShells y = of("sea 2;");
        codes("look", tray -> y.look(tray), y);
        y.numbers(0, 0, 25);
        y.write(0, 0, 77);
        due("-4 ahead of NONE", y.look(0), -4);
    }

    /** Two beaches that sound unlike in 100 hours alone. */
    private static HallShells unlikeIn100() {
        HallShells x = of("sea 2;hour 20;gale 99;sounds: beach * (1 - gale) * (1 - hour * hour);");
        fill(x, 0, 0, NONE);
        return x;
    }

    private static void unlike() {
        sentence(42, "In how many of the 24 HOURS from now on, this one first, two BEACHES sound unlike.");
        HallShells x = of("sea 2;gale 24;sounds: beach * gale;");
        due("24", x.unlike(0, 1), 24);
        x.gale(99);
        due("24 at most", x.unlike(0, 1), 24);
        x.gale(23);
        due("23", x.unlike(1, 0), 23);
        x.gale(1);
        due("this one", x.unlike(0, 1), 1);
        x.gale(0);
        due("none", x.unlike(0, 1), 0);
        due("one and the same", x.unlike(1, 1), 0);
        due("each hour of a day once", of("sea 2;hour 17;sounds: beach * (1 - (hour - 16) * (hour - 16));").unlike(0, 1), 1);
        sentence(42, "-2.");
        bounds("one", b -> x.unlike(b, 0), 0, 1, -2);
        bounds("the other", c -> x.unlike(0, c), 0, 1, -2);
        due("both one that isn't", x.unlike(2, 2), -2);
    }

    private static void pairsTerm() {
        sentence(TERMS, "PAIRS: all shells, two by two (one is left over, if they are odd): of two it counts in how many of the 24 HOURS from now on,"
            + " this one first, the BEACHES they are from sound unlike: the least in sum, of like ones the first by the partner of shell"
            + " 0, 1 and so on (left over: after all partners).");
        partners(of("sea 6;shell 5;shell 4;shell 3;shell 2;shell 2;shell 3;shell 4;shell 5;"), 0, 7, 6, 5, 4, 3, 2, 1, 0);
        partners(of("sea 1;shell 0;shell 0;shell 0;shell 0;shell 0;shell 0;shell 0;shell 0;"), 0, 1, 0, 3, 2, 5, 4, 7, 6);
        partners(of("sea 1;shell 0;shell 0;shell 0;shell 0;shell 0;shell 0;shell 0;"), 0, 1, 0, 3, 2, 5, 4, NONE);
        partners(of("sea 2;shell 0;shell 1;shell 1;shell 0;shell 0;"), 0, 3, 2, 1, 0, NONE);
        partners(of("sea 2;shell 1;shell 0;shell 0;"), 0, NONE, 2, 1);
        partners(of("sea 2;shell 0;shell 1;shell 0;"), 0, 2, NONE, 0);
        partners(of("sea 4;shell 0;shell 1;shell 2;shell 3;"), 48, 1, 0, 3, 2);
        partners(of("sea 3;shell 0;shell 1;shell 2;"), 24, 1, 0, NONE);
        HallShells x = of("sea 3;gale 5;sounds: beach * (2 - beach) + beach * (beach - 1) * gale;shell 2;shell 0;shell 1;");
        // In the gale they sound 0, 1, 2, behind it 0, 1, 0.
        partners(x, 5, 1, 0, NONE);
        x.hours(1);
        partners(x, 4, 1, 0, NONE);
        x.gale(24);
        partners(x, 24, 1, 0, NONE);
    }

    private static void partners(HallShells x, int sum, int... partners) {
        due("sum", x.pairs(0), sum);
        for (int k = 0; k < partners.length; k++) {
            due("partner of " + k, x.pairs(10 + k), partners[k]);
        }
    }

    private static void pairs() {
        sentence(43, "PAIRS, what 0: the sum, 10 + k: the partner of shell k (NONE: it is left over).");
        due("no shells", new HallShells().pairs(0), 0);
        partners(of("sea 1;shell 0;"), 0, NONE);
        partners(of("sea 2;shell 0;shell 1;"), 24, 1, 0);
        sentence(43, "-2: what (10 and a shell).");
        HallShells x = of("sea 1;shell 0;shell 0;");
        for (int what = -30; what < 60; what++) {
            if (what != 0 && what != 10 && what != 11) {
                due("what " + what, x.pairs(what), -2);
            }
        }
        bounds("what", what -> x.pairs(what), 10, 11, -2);
        due("no shells", new HallShells().pairs(10), -2);
        due("eight shells", of("sea 1;shell 0;shell 0;shell 0;shell 0;shell 0;shell 0;shell 0;shell 0;").pairs(18), -2);
    }
}
