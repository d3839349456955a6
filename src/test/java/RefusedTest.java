/** "A call that returns an error changes nothing": each error of each call, in firms where much could change. */
public final class RefusedTest {
    private static final int NO_SUCH = Firms.NO_SUCH, BAD_VALUE = Firms.BAD_VALUE, BAD_TEXT = Firms.BAD_TEXT;
    private static final int TOO_MANY = Firms.TOO_MANY, NOT_POSSIBLE = Firms.NOT_POSSIBLE, NONE = Firms.NONE;
    private static final Due due = new Due();

    private interface Making {
        PianoCrews make();
    }

    private interface Call {
        int on(PianoCrews x);
    }

    public static void main(String[] args) {
        due.says("A call that returns an error changes nothing");
        badSettingsPeopleAndStraps();
        badJobs();
        badBegins();
        badDelaysAndHours();
        badQuestions();
        badTextsAndSlots();
        aFullFirm();
        theLastHour();
        nothingToUndo();
        due.end();
    }

    /** Six changes can be undone, and the last ones are of many kinds; one slot is used; the pad has a fault. */
    private static PianoCrews busy() {
        PianoCrews x = Firms.everyState();
        x.save(0);
        x.delay(1, 20);
        x.delay(1, 20);
        x.delay(1, 10);
        x.job(200, 1, 2, 1, 3);
        x.set(Firms.STEP, 12);
        x.buy(1);
        Due.put(x, "w100;");
        return x;
    }

    private static PianoCrews full() {
        PianoCrews x = Firms.of(10, 50);
        for (int n = 0; n < 16; n++) {
            Firms.job(x, 50, 1);
        }
        for (int n = 0; n < 7; n++) {
            x.buy(1);
        }
        Due.put(x, "n1;".repeat(26) + "n1");
        return x;
    }

    /** One object on which the call is refused, and one without it, answer alike then, undone and restored too. */
    private static void refused(String name, Making firm, Call call, int error) {
        for (int undone = 0; undone <= 6; undone += 2) {
            PianoCrews x = firm.make();
            PianoCrews twin = firm.make();
            due.is(name, call.on(x), error);
            for (int n = 0; n < undone; n++) {
                due.is(name + ", then undo", x.undo(), twin.undo());
            }
            due.same("after " + name + ", and undo " + undone + " times", Firms.look(x), Firms.look(twin));
        }
        for (int slot = 0; slot < 2; slot++) {
            PianoCrews x = firm.make();
            PianoCrews twin = firm.make();
            call.on(x);
            due.is(name + ", then restore", x.restore(slot), twin.restore(slot));
            due.same("after " + name + ", and restore", Firms.look(x), Firms.look(twin));
        }
    }

    private static void refused(String name, Call call, int error) {
        refused(name, RefusedTest::busy, call, error);
    }

    private static void badSettingsPeopleAndStraps() {
        int[][] sets = {{-1, 5}, {4, 5}, {0, -1}, {0, 51}, {1, 0}, {1, 21}, {2, -1}, {2, 21}, {3, 0}, {3, 7}};
        for (int[] set : sets) {
            refused("set(" + set[0] + ", " + set[1] + ")", x -> x.set(set[0], set[1]), BAD_VALUE);
        }
        refused("person(9)", x -> x.person(9), BAD_VALUE);
        refused("person(151)", x -> x.person(151), BAD_VALUE);
        refused("buy(-1)", x -> x.buy(-1), NO_SUCH);
        refused("buy(3)", x -> x.buy(3), NO_SUCH);
    }

    private static void badJobs() {
        int[][] jobs = {
            {49, 1, 1, 1, 1}, {601, 1, 1, 1, 1}, {50, -1, 1, 1, 1}, {50, 10, 1, 1, 1}, {50, 1, 0, 1, 1},
            {50, 1, 10, 1, 1}, {50, 1, 1, -1, 1}, {50, 1, 1, 4, 1}, {50, 1, 1, 1, -1}, {50, 1, 1, 1, 1000},
        };
        for (int[] j : jobs) {
            refused("job(" + j[0] + ", " + j[1] + ", " + j[2] + ", " + j[3] + ", " + j[4] + ")",
                x -> x.job(j[0], j[1], j[2], j[3], j[4]), BAD_VALUE);
        }
    }

    private static void badBegins() {
        refused("begin(-1, 1, NONE)", x -> x.begin(-1, 1, NONE), NO_SUCH);
        refused("begin(5, 1, NONE)", x -> x.begin(5, 1, NONE), NO_SUCH);
        refused("begin(0, 1, 3)", x -> x.begin(0, 1, 3), BAD_VALUE);
        refused("begin(0, 1, -1)", x -> x.begin(0, 1, -1), BAD_VALUE);
        refused("one that is being done", x -> x.begin(1, 1, NONE), NOT_POSSIBLE);
        refused("one that is done", x -> x.begin(2, 1, NONE), NOT_POSSIBLE);
        refused("one that is called off", x -> x.begin(3, 1, NONE), NOT_POSSIBLE);
        refused("an empty crew", x -> x.begin(0, 0, NONE), NOT_POSSIBLE);
        refused("somebody who is not there", x -> x.begin(0, 9, NONE), NOT_POSSIBLE);
        refused("somebody who is at a job", x -> x.begin(0, 3, NONE), NOT_POSSIBLE);
        refused("straps of the kind 2 upstairs", x -> x.begin(4, 5, 2), NOT_POSSIBLE);
        refused("a crew that is too weak", x -> x.begin(4, 5, NONE), NOT_POSSIBLE);
    }

    private static void badDelaysAndHours() {
        refused("delay(5, 1)", x -> x.delay(5, 1), NO_SUCH);
        refused("delay(1, 0)", x -> x.delay(1, 0), BAD_VALUE);
        refused("delay(1, 21)", x -> x.delay(1, 21), BAD_VALUE);
        refused("delay of 61 hours", x -> x.delay(1, 11), NOT_POSSIBLE);
        refused("delay of one that waits", x -> x.delay(0, 1), NOT_POSSIBLE);
        refused("delay of one that is done", x -> x.delay(2, 1), NOT_POSSIBLE);
        refused("delay of one that is called off", x -> x.delay(3, 1), NOT_POSSIBLE);
        refused("callOff(5)", x -> x.callOff(5), NO_SUCH);
        refused("callOff of one that is done", x -> x.callOff(2), NOT_POSSIBLE);
        refused("callOff of one that is called off", x -> x.callOff(3), NOT_POSSIBLE);
        refused("pass(0)", x -> x.pass(0), BAD_VALUE);
        refused("pass(-1)", x -> x.pass(-1), BAD_VALUE);
        refused("pass(100)", x -> x.pass(100), BAD_VALUE);
    }

    private static void badQuestions() {
        refused("of(3, 0)", x -> x.of(3, 0), NO_SUCH);
        refused("of(0, 6)", x -> x.of(0, 6), BAD_VALUE);
        refused("ofJob(5, 0)", x -> x.ofJob(5, 0), NO_SUCH);
        refused("ofJob(0, 13)", x -> x.ofJob(0, 13), BAD_VALUE);
        refused("waiting(2)", x -> x.waiting(2), NO_SUCH);
        refused("straps(3, 0)", x -> x.straps(3, 0), NO_SUCH);
        refused("straps(0, 2)", x -> x.straps(0, 2), BAD_VALUE);
        refused("count(16)", x -> x.count(16), BAD_VALUE);
        refused("why(5, 1, NONE)", x -> x.why(5, 1, NONE), NO_SUCH);
        refused("why(0, 1, 3)", x -> x.why(0, 1, 3), BAD_VALUE);
        refused("crew(5, NONE)", x -> x.crew(5, NONE), NO_SUCH);
        refused("crew(0, 3)", x -> x.crew(0, 3), BAD_VALUE);
        refused("crew(1, NONE)", x -> x.crew(1, NONE), NOT_POSSIBLE);
        refused("bestStraps(5)", x -> x.bestStraps(5), NO_SUCH);
        refused("bestStraps(1)", x -> x.bestStraps(1), NOT_POSSIBLE);
        refused("doneIn(5)", x -> x.doneIn(5), NO_SUCH);
        refused("doneIn(0)", x -> x.doneIn(0), NOT_POSSIBLE);
    }

    private static void badTextsAndSlots() {
        refused("put(0)", x -> x.put(0), BAD_VALUE);
        refused("put(' ')", x -> x.put(' '), BAD_VALUE);
        refused("put of a bad one behind good ones", x -> x.put(Due.packed("abcdefg\u007f")), BAD_VALUE);
        refused("put of a bad one ahead of good ones", x -> x.put(Due.packed("\u0020abcdefg")), BAD_VALUE);
        refused("put above 8 bits that are 0", x -> x.put('a' | (long) 'a' << 16), BAD_VALUE);
        refused("carryOut()", x -> x.carryOut(), BAD_TEXT);
        refused("save(-1)", x -> x.save(-1), BAD_VALUE);
        refused("save(2)", x -> x.save(2), BAD_VALUE);
        refused("restore(-1)", x -> x.restore(-1), BAD_VALUE);
        refused("restore(2)", x -> x.restore(2), BAD_VALUE);
        refused("restore(1)", x -> x.restore(1), NOT_POSSIBLE);
    }

    private static void aFullFirm() {
        refused("an eleventh person", RefusedTest::full, x -> x.person(50), TOO_MANY);
        refused("a seventeenth job", RefusedTest::full, x -> x.job(50, 0, 1, 0, 0), TOO_MANY);
        refused("a tenth pair of straps", RefusedTest::full, x -> x.buy(1), TOO_MANY);
        refused("an 81st character", RefusedTest::full, x -> x.put('a'), TOO_MANY);
        refused("characters 81 to 88", RefusedTest::full, x -> x.put(Due.packed(";n1;n1;n")), TOO_MANY);
        refused("a crew of five", RefusedTest::full, x -> x.begin(0, 31, NONE), NOT_POSSIBLE);
    }

    private static void theLastHour() {
        refused("pass(1)", Firms::atTheLastHour, x -> x.pass(1), NOT_POSSIBLE);
        refused("pass(99)", Firms::atTheLastHour, x -> x.pass(99), NOT_POSSIBLE);
    }

    private static void nothingToUndo() {
        refused("undo()", PianoCrews::new, x -> x.undo(), NOT_POSSIBLE);
        refused("carryOut() of an empty pad", PianoCrews::new, x -> x.carryOut(), BAD_TEXT);
        refused("person(9)", PianoCrews::new, x -> x.person(9), BAD_VALUE);
    }
}
