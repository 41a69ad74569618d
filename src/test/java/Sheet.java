import java.nio.charset.StandardCharsets;
import java.util.function.IntUnaryOperator;

/** What the tests have in common: seas told as texts, trays filled, answers held against what is due. */
abstract class Sheet {
    static final int NONE = HallShells.NONE;
    private static int wrong = 0;
    /** What of the document is being tested. */
    private static String about = "";

    static void about(String what) {
        about = what;
    }

    static void must(boolean so, String what) {
        if (!so) {
            wrong++;
            System.out.println(about + ": " + what);
        }
    }

    static void due(String call, long got, long want) {
        must(got == want, call + " answered " + got + ", due is " + want);
    }

    /** A text onto the tape, filled up to twenty bytes with one that may be anything. */
    static void feed(HallShells x, String text, char behind) {
        byte[] bytes = text.getBytes(StandardCharsets.ISO_8859_1);
        for (int i = 0; i < bytes.length; i += 20) {
            int[] fours = new int[5];
            for (int j = 0; j < 20; j++) {
                fours[j / 4] = fours[j / 4] << 8 | (i + j < bytes.length ? bytes[i + j] & 255 : behind);
            }
            x.feed(fours[0], fours[1], fours[2], fours[3], fours[4]);
        }
    }

    static void feed(HallShells x, String text) {
        feed(x, text, ' ');
    }

    /** A sea without a fault. */
    static HallShells of(String text) {
        HallShells x = new HallShells();
        feed(x, text);
        long lines = text.chars().filter(c -> c == ';').count();
        due("sea of " + text, x.sea(text.length()), lines);
        return x;
    }

    static void fill(HallShells x, int tray, int sort, long... numbers) {
        due("numbers", x.numbers(tray, sort, numbers.length), 0);
        for (int i = 0; i < numbers.length; i++) {
            due("write " + i, x.write(tray, i, numbers[i]), numbers[i]);
        }
    }

    /** A text with the fault that is due and its place. */
    static void fault(String text, int kind, int place) {
        HallShells x = new HallShells();
        feed(x, text, '!');
        int answer = x.sea(text.length());
        boolean well = kind == 0 ? answer > 0 : answer == -30 - kind;
        must(well && x.fault(0) == kind && x.fault(1) == place, "\"" + text + "\" answered " + answer + ", fault "
            + x.fault(0) + " at " + x.fault(1) + ", due is " + kind + " at " + place);
    }

    static void fine(String text) {
        fault(text, 0, NONE);
    }

    /** A call that refuses, by this code, just what lies outside of two bounds. */
    static void bounds(String call, IntUnaryOperator answers, int least, int most, int code) {
        for (int n : new int[] {Integer.MIN_VALUE, least - 1, most + 1, Integer.MAX_VALUE}) {
            due(call + " with " + n, answers.applyAsInt(n), code);
        }
        for (int n : new int[] {least, most}) {
            must(least > most || answers.applyAsInt(n) != code, call + " with " + n + " answered " + code);
        }
    }

    /** Tells how the test ended. */
    static void end(String well) {
        System.out.println(wrong == 0 ? well : wrong + " are not as due");
        if (wrong != 0) {
            System.exit(1);
        }
    }
}
