/** Texts with the fault that is due and its place, or with no fault (0). */
public final class FaultsTest extends Sheet {
    public static void main(String[] args) {
        about("faults");
        tokens();
        places();
        bounds();
        tooMany();
        laws();
        end("all faults are as due");
    }

    private static void tokens() {
        fine("sea 1;");
        fine("sea1;");
        fine("\n\n  sea\n006 ; ");
        fine("sea 2;person at0deaf;shell0;current0 1takes9;hour007;");
        fine("sea 2;person deaf at 0 deaf at 1;");
        fault("sea 2; \t", 1, 7);
        fault("sea 2;\r", 1, 6);
        fault("Sea 2;", 1, 0);
        fault("sea 2;\u00e9", 1, 6);
        fault("sea 2;\u0000", 1, 6);
        fault("sea 0002;", 1, 4);
        fault("sea 2;hour 12345;", 1, 11);
        fault("sea 2;1000", 1, 6);
        fault("sea 2;hour 1.", 1, 12);
        fault("sea 2;1000,", 1, 6);
        fault("sea 2;sea,", 2, 6);
        fault("seasea 2;", 2, 0);
        fault("sea 2;hour 1 1000;", 1, 13);
        fault("sea 2;sounds : 1a;", 2, 16);
        fault("sea 2;sounds : 1_;", 1, 16);
    }

    private static void places() {
        fault("", 2, 0);
        fault("  ", 2, 2);
        fault("sea", 2, 3);
        fault("sea  ", 2, 5);
        fault("sea 1", 2, 5);
        fault("person;sea 1;", 2, 0);
        fault("sea 1;;", 2, 6);
        fault("sea 1;sea 1;", 2, 6);
        fault("sea 1;person", 2, 12);
        fault("sea 1;person at;", 2, 15);
        fault("sea 1;person at 0", 2, 17);
        fault("sea 1;person by 0;", 2, 13);
        fault("sea 1;person 0;", 2, 13);
        fault("sea 2;current 0 1;", 2, 17);
        fault("sea 2;current 0 takes 1;", 2, 16);
        fault("sea 2;current takes 1;", 2, 14);
        fault("sea 2;current 0 1 takes;", 2, 23);
        fault("sea 2;current 0 1 takes 1 1;", 2, 26);
        fault("sea 2;shell 0 0;", 2, 14);
        fault("sea 2;person;shell 0 by;", 2, 23);
        fault("sea 2;person;shell 0 by 0 by 0;", 2, 26);
        fault("sea 2;hour;", 2, 10);
        fault("sea 2;gale :", 2, 11);
        fault("sea 2;at 0;", 2, 6);
        fault("sea 2;az;", 2, 6);
        fault("sea 2;zebra;", 2, 6);
        fault("sea 2;hou 1;", 2, 6);
        fault("sea 2;hours 1;", 2, 6);
        fault("sea 2;takes;", 2, 6);
        fault("sea 2;-", 2, 6);
    }

    private static void bounds() {
        fault("sea 0", 3, 4);
        fault("sea 7 x", 3, 4);
        fault("sea 1;current 0 0 takes 1;", 3, 16);
        fault("sea 3;current 3 0", 3, 14);
        fault("sea 3;current 0 3", 3, 16);
        fault("sea 3;current 2 2", 3, 16);
        fault("sea 3;current 2 02", 3, 16);
        fault("sea 3;current 1 2 takes 0", 3, 24);
        fault("sea 3;current 1 2 takes 10", 3, 24);
        fine("sea 3;current 1 2 takes 9;current 2 1 takes 1;");
        fault("sea 3;person at 3", 3, 16);
        fault("sea 3;person at 0 at 999;", 3, 21);
        fault("sea 3;shell 3", 3, 12);
        fault("sea 3;shell 0 by 0;person;", 3, 17);
        fault("sea 3;person;shell 0 by 1;person;", 3, 24);
        fine("sea 3;person;person;shell 2 by 1;");
        fine("sea 1;gale 99;hour 999;");
        fault("sea 1;gale 100", 3, 11);
    }

    private static void tooMany() {
        String currents = "current 0 1 takes 1;".repeat(10);
        fine("sea 2;" + currents);
        fault("sea 2;" + currents + "current", 4, 206);
        fault("sea 2;" + currents + "current 9 9 takes 0;", 4, 206);
        fine("sea 2;" + "person;".repeat(6));
        fault("sea 2;" + "person;".repeat(6) + "hour 1;person;", 4, 55);
        fine("sea 2;" + "shell 1;".repeat(8));
        fault("sea 2;" + "shell 1;".repeat(8) + "shell 7", 4, 70);
        fine("sea 2;sounds:((((((1))))))+((((((1))))));");
        fault("sea 2;sounds:1+(((((((", 4, 21);
        fine("sea 2;open:not not not not not not 1=1 and not not not not not not 1=1;");
        fault("sea 2;open:not not not not not not not 1=1;", 4, 35);
        fine("sea 2;open:[[[[[[1=1]]]]]]or[1=1];");
        fault("sea 2;open:[[[[[[[1=1]]]]]]];", 4, 17);
        fine("sea 2;listens:not[not[((1))=1]];");
        fine("sea 2;listens:not[not[not(1)=(1)]];");
        fault("sea 2;listens:not[not[not((1))=1]];", 4, 26);
        fine("sea 2;listens:not[not[not[1=1]]];");
        fault("sea 2;listens:not[not[not[(1)=1]]];", 4, 26);
        fault("sea 2;listens:not[not[not[not 1=1]]];", 4, 26);
        fault("sea 2;listens:not[not[not[[1=1]]]];", 4, 26);
        fault("sea 2;sounds:((((((1(", 2, 20);
        fault("sea 2;sounds:((((((not", 2, 19);
        fault("sea 2;open:((((((1)=1;", 2, 19);
    }

    private static void laws() {
        fine("sea 2;sounds:beach+hour*gale-(beach-1)*3;");
        fine("sea 2;open:from=to or takes<hour and not gale>1;");
        fine("sea 2;listens:who+home*words>hour-gale;");
        fine("sea 2;open:(1+2)*3=(4);");
        fine("sea 1;sounds:" + "1+".repeat(442) + "1;");
        fine("sea 1;" + "sounds:1;".repeat(99));
        for (String word : new String[] {"from", "to", "takes", "who", "home", "words", "sounds", "or", "not", "sea"}) {
            fault("sea 2;sounds:" + word + ";", 2, 13);
        }
        for (String word : new String[] {"beach", "who", "home", "words", "open", "and", "at"}) {
            fault("sea 2;open:1=" + word + ";", 2, 13);
        }
        for (String word : new String[] {"beach", "from", "to", "takes", "listens", "deaf"}) {
            fault("sea 2;listens:1=" + word + ";", 2, 16);
        }
        fault("sea 2;sounds;", 2, 12);
        fault("sea 2;sounds:1=1;", 2, 14);
        fault("sea 2;sounds:[1];", 2, 13);
        fault("sea 2;sounds:1+;", 2, 15);
        fault("sea 2;sounds:-1;", 2, 13);
        fault("sea 2;sounds:1 1;", 2, 15);
        fault("sea 2;sounds:(1;", 2, 15);
        fault("sea 2;sounds:1);", 2, 14);
        fault("sea 2;sounds:1", 2, 14);
        fault("sea 2;open:1;", 2, 12);
        fault("sea 2;open:1=1=1;", 2, 14);
        fault("sea 2;open:1=1 or;", 2, 17);
        fault("sea 2;open:1=1 and;", 2, 18);
        fault("sea 2;open:1=1 or;hour 1;", 2, 17);
        fault("sea 2;open:1=1 and ;hour 1;", 2, 19);
        fault("sea 2;sounds:1*;hour 1;", 2, 15);
        fault("sea 2;sounds:1-;hour 1;", 2, 15);
        fault("sea 2;open:not ;hour 1;", 2, 15);
        fault("sea 2;open:1=1 not 1=1;", 2, 15);
        fault("sea 2;open:not;", 2, 14);
        fault("sea 2;open:[1=1);", 2, 15);
        fault("sea 2;open:(1=1);", 2, 13);
        fault("sea 2;open:[1]=1;", 2, 13);
        fault("sea 2;open:[1=1]=1;", 2, 16);
        fault("sea 2;open:1=[1];", 2, 13);
        fault("sea 2;open:1=not 1;", 2, 13);
    }
}
