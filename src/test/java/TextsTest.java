/** Promises 21 to 24: the pad and its orders. */
public final class TextsTest {
    private static final int BAD_VALUE = -2, BAD_TEXT = -3, TOO_MANY = -4, NOT_POSSIBLE = -5, NONE = -6;
    private static final Due due = new Due();

    public static void main(String[] args) {
        promise21Put();
        promise21Full();
        promise22Wipe();
        promise23Fault();
        promise23EveryOrder();
        promise24CarryOut();
        promise24EveryOrder();
        promise24Errors();
        promise24Crews();
        promise24Undo();
        due.end();
    }

    private static void promise21Put() {
        PianoCrews x = new PianoCrews();
        due.is("21: no character", x.put(0), BAD_VALUE);
        due.is("21: code 32", x.put(32), BAD_VALUE);
        due.is("21: code 127", x.put(127), BAD_VALUE);
        due.is("21: code 255", x.put(255), BAD_VALUE);
        due.is("21: a bad one ahead", x.put(Due.packed(" a")), BAD_VALUE);
        due.is("21: a bad one behind", x.put(Due.packed("a ")), BAD_VALUE);
        due.is("21: a bad one at the eighth place", x.put(Due.packed("\u0080aaaaaaa")), BAD_VALUE);
        due.is("21: above 8 bits of 0", x.put(97L << 16 | 97), BAD_VALUE);
        due.is("21: above 8 bits of 0", x.put(1L << 63 | 97), BAD_VALUE);
        due.is("21: the lowest bits are 0", x.put(97L << 8), BAD_VALUE);
        due.is("21: -1", x.put(-1), BAD_VALUE);
        due.is("21: nothing came", x.count(14), 0);
        due.is("21: code 33", x.put(33), 1);
        due.is("21: code 126", x.put(126), 2);
        due.is("21: eight", x.put(Due.packed("w100;w90")), 10);
        due.is("21: seven", x.put(Due.packed("w100;w9")), 17);
        due.is("21: no change", x.count(15), 0);
        x.wipe();
        x.put(Due.packed("w1"));
        x.put(Due.packed("2"));
        x.put(Due.packed("3;w77"));
        due.is("21: appended in order", x.carryOut(), 2);
        due.is("21: appended in order", x.of(0, 0), 123);
        due.is("21: appended in order", x.of(1, 0), 77);
    }

    private static void promise21Full() {
        PianoCrews x = new PianoCrews();
        for (int n = 1; n <= 9; n++) {
            due.is("21: eight more", x.put(Due.packed("a;a;a;a;")), 8 * n);
        }
        due.is("21: 75", x.put(Due.packed("a;a")), 75);
        due.is("21: 83", x.put(Due.packed(";a;a;a;a")), TOO_MANY);
        due.is("21: 81", x.put(Due.packed(";a;a;a")), TOO_MANY);
        due.is("21: BAD_VALUE first", x.put(Due.packed(";a;a; ")), BAD_VALUE);
        due.is("21: 75", x.count(14), 75);
        due.is("21: 80", x.put(Due.packed(";a;ab")), 80);
        due.is("21: 81", x.put(97), TOO_MANY);
        due.is("23: the last one", x.fault(), 79);
        due.is("22: 80", x.wipe(), 80);
        Due.put(x, "a;".repeat(40));
        due.is("23: too early", x.fault(), 80);
    }

    private static void promise22Wipe() {
        PianoCrews x = new PianoCrews();
        due.is("22: empty", x.wipe(), 0);
        Due.put(x, "w100;a");
        due.is("22: six", x.wipe(), 6);
        due.is("22: none left", x.count(14), 0);
        due.is("22: no change", x.count(15), 0);
        due.is("22: again", x.wipe(), 0);
        due.is("23: empty", x.fault(), 0);
    }

    private static void fault(String text, int want) {
        PianoCrews x = new PianoCrews();
        Due.put(x, text);
        due.is("23: fault of " + text, x.fault(), want);
        due.is("23: the pad stays", x.count(14), text.length());
        due.is("24: BAD_TEXT of " + text, x.carryOut() == BAD_TEXT ? 1 : 0, want == NONE ? 0 : 1);
        due.is("24: the pad of " + text, x.count(14), want == NONE ? 0 : text.length());
    }

    private static void promise23Fault() {
        fault("", 0);
        fault("a", NONE);
        fault(";", 0);
        fault("a;", 2);
        fault("a;;a", 2);
        fault("aa", 1);
        fault("A", 0);
        fault("b", 0);
        fault("w", 1);
        fault("w0", NONE);
        fault("w00", 2);
        fault("w01", 2);
        fault("w10", NONE);
        fault("w999", NONE);
        fault("w1000", 4);
        fault("w9999;a", 4);
        fault("w-1", 1);
        fault("w+1", 1);
        fault("w1;", 3);
        fault("w1,a", 2);
        fault("w1;w", 4);
        fault("a;x5;n3", NONE);
        fault("a0", 1);
    }

    private static void promise23EveryOrder() {
        fault("j200,3,2,1,5", NONE);
        fault("j200,3,2,1,999", NONE);
        fault("j200,3,2,1,1000", 14);
        fault("j200,10,2,1,5", 6);
        fault("j200,3,22,1,5", 8);
        fault("j200,3,2,11,5", 10);
        fault("j200,3,2,1,05", 12);
        fault("j2000,3,2,1,5", 4);
        fault("j200;", 4);
        fault("j200,", 5);
        fault("j200,3,2,1", 10);
        fault("j200,3,2,1,", 11);
        fault("j200,3,2,1,5,", 12);
        fault("j,", 1);
        fault("g0:1", NONE);
        fault("g0:", 3);
        fault("g0", 2);
        fault("g0+", 2);
        fault("g00:1", 2);
        fault("g999:0123456789", NONE);
        fault("g1000:1", 4);
        fault("g0:1+", 5);
        fault("g0:1+2", NONE);
        fault("g0:1+22", 6);
        fault("g0:+2", 3);
        fault("g0:00110099+9", NONE);
        fault("g0:1+2+1", 6);
        fault("g0:1,2", 4);
        fault("d0+1", NONE);
        fault("d0+", 3);
        fault("d0", 2);
        fault("d0:1", 2);
        fault("d12+01", 5);
        fault("d0+1000", 6);
        fault("x0", NONE);
        fault("x", 1);
        fault("x0+1", 2);
        fault("n99", NONE);
        fault("n", 1);
        fault("na", 1);
        fault("n1n1", 2);
        fault("m1", 0);
    }

    private static void promise24CarryOut() {
        PianoCrews x = new PianoCrews();
        due.is("24: an empty text", x.carryOut(), BAD_TEXT);
        Due.put(x, "w100;w");
        due.is("24: a fault", x.carryOut(), BAD_TEXT);
        due.is("24: it stays", x.count(14), 6);
        due.is("24: nothing is carried out", x.count(1), 0);
        due.is("24: no change", x.count(15), 0);
        x.put(Due.packed("80"));
        due.is("24: two orders", x.carryOut(), 2);
        due.is("24: the pad is empty", x.count(14), 0);
        due.is("24: one change", x.count(15), 1);
        due.is("24: person 0", x.of(0, 0), 100);
        due.is("24: person 1", x.of(1, 0), 80);
    }

    private static void promise24EveryOrder() {
        PianoCrews x = new PianoCrews();
        Due.put(x, "w100;w80;j200,3,2,1,5;j60,0,1,3,997");
        due.is("24: four", x.carryOut(), 4);
        int[] told = {200, 3, 2, 1, 5, 0, 260};
        for (int what = 0; what < told.length; what++) {
            due.is("24: job 0, " + what, x.ofJob(0, what), told[what]);
        }
        due.is("24: deadline", x.ofJob(1, 4), 997);
        Due.put(x, "g1:0+2;d1+3;n1");
        due.is("24: three", x.carryOut(), 3);
        due.is("24: crew", x.ofJob(1, 7), 1);
        due.is("24: straps", x.ofJob(1, 8), 2);
        due.is("24: delay", x.ofJob(1, 9), 2);
        due.is("24: hours", x.count(0), 1);
        Due.put(x, "x0;x1;a");
        due.is("24: three", x.carryOut(), 3);
        due.is("24: called off", x.ofJob(0, 5), 3);
        due.is("24: called off", x.ofJob(1, 5), 3);
        Due.put(x, "j50,1,2,0,9;j50,0,2,1,9;a;n99");
        due.is("24: four", x.carryOut(), 4);
        due.is("24: crews by themselves", x.ofJob(2, 7), 2);
        due.is("24: crews by themselves", x.ofJob(3, 7), 1);
        due.is("24: done", x.count(6), 0b1100);
        due.is("24: hours", x.count(0), 100);
        due.is("24: changes", x.count(15), 4);
    }

    private static void errors(String text, int want) {
        PianoCrews x = new PianoCrews();
        Due.put(x, "w100;w90;j50,0,2,0,9;j95,1,2,0,9;g0:1");
        due.is("24: made ready", x.carryOut(), 5);
        Due.put(x, text);
        due.is("24: orders of " + text, x.carryOut(), want);
        due.is("24: empty after " + text, x.count(14), 0);
        due.is("24: a change by " + text, x.count(15), 2);
    }

    private static void promise24Errors() {
        errors("w9", 0);
        errors("w151;w100", 0);
        errors("a;w151;w100", 1);
        errors("j49,0,1,0,0", 0);
        errors("j50,0,0,0,0", 0);
        errors("j50,0,1,4,0", 0);
        errors("g9:0", 0);
        errors("g1:0+3", 0);
        errors("g1:0+2", 0);
        errors("g1:0", 0);
        errors("g1:0+1", 1);
        errors("g1:1", 0);
        errors("g1:00+1", 1);
        errors("g1:05+1", 0);
        errors("d0+0", 0);
        errors("d0+20;d0+20;d0+20;d0+1", 3);
        errors("d1+1", 0);
        errors("x2", 0);
        errors("x0;x0", 1);
        errors("n0", 0);
        errors("n99;n1;n100;n1", 2);
        errors("a;a;a", 3);
        PianoCrews x = new PianoCrews();
        Due.put(x, "w50;n0;w60");
        due.is("24: up to the first error", x.carryOut(), 1);
        due.is("24: what was carried out stands", x.count(1), 1);
        due.is("24: the rest is not", x.of(1, 0), -1);
    }

    private static void promise24Crews() {
        PianoCrews x = new PianoCrews();
        Due.put(x, "w20;w20;w20;w20;w20;j80,0,1,0,9;g0:2413");
        due.is("24: with four people", x.carryOut(), 7);
        due.is("24: persons 1 to 4", x.ofJob(0, 7), 0b11110);
        due.is("24: without straps", x.ofJob(0, 8), NONE);
        PianoCrews y = new PianoCrews();
        Due.put(y, "w20;w20;w20;w20;w20;j80,0,1,0,9;g0:01010123+0");
        due.is("24: told twice counts once", y.carryOut(), 7);
        due.is("24: persons 0 to 3", y.ofJob(0, 7), 0b1111);
        due.is("24: with kind 0", y.ofJob(0, 8), 0);
    }

    private static void promise24Undo() {
        PianoCrews x = new PianoCrews();
        x.person(70);
        Due.put(x, "w100;w80;n5;n100;w60");
        due.is("24: three", x.carryOut(), 3);
        due.is("24: one change", x.count(15), 2);
        Due.put(x, "n");
        due.is("25: all of them at once", x.undo(), 1);
        due.is("25: as it was", x.count(1), 1);
        due.is("25: the hours", x.count(0), 0);
        due.is("25: the pad is not undone", x.count(14), 1);
        x.put(Due.packed("0"));
        due.is("24: none carried out", x.carryOut(), 0);
        due.is("24: a change all the same", x.count(15), 2);
        due.is("25: undone", x.undo(), 1);
        due.is("25: undone", x.undo(), 0);
        due.is("25: nothing left", x.undo(), NOT_POSSIBLE);
    }
}
