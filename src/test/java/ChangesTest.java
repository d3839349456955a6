/** Promises 1 to 10: a new object, and the changes. */
public final class ChangesTest {
    private static final int NO_SUCH = -1, BAD_VALUE = -2, TOO_MANY = -4, NOT_POSSIBLE = -5, NONE = -6;
    private static final Due due = new Due();

    public static void main(String[] args) {
        promise1NewObject();
        promise2Set();
        promise2SetWorks();
        promise3Person();
        promise4Buy();
        promise5Job();
        promise6Begin();
        promise6BeginPlaces();
        promise7AssignOrder();
        promise7AssignStraps();
        promise7AssignSharesOut();
        promise8Delay();
        promise9CallOff();
        promise10Pass();
        promise10Pauses();
        promise10Delays();
        promise10Bound();
        promise10FullHouse();
        due.end();
    }

    private static void promise1NewObject() {
        PianoCrews x = new PianoCrews();
        int[] counts = {0, 0, 0, 0, 0, 0, 0, 0, 0, 0, 10, 5, 4, 4, 0, 0};
        for (int what = 0; what < counts.length; what++) {
            due.is("1: count(" + what + ")", x.count(what), counts[what]);
        }
        for (int kind = 0; kind < 3; kind++) {
            due.is("1: straps in all", x.straps(kind, 0), 2);
            due.is("1: straps free", x.straps(kind, 1), 2);
        }
        due.is("1: nobody", x.of(0, 0), NO_SUCH);
        due.is("1: no job", x.ofJob(0, 0), NO_SUCH);
        due.is("1: none waits", x.waiting(0), NO_SUCH);
        due.is("1: nothing to undo", x.undo(), NOT_POSSIBLE);
        due.is("1: slot 0", x.restore(0), NOT_POSSIBLE);
        due.is("1: slot 1", x.restore(1), NOT_POSSIBLE);
        due.is("1: empty pad", x.fault(), 0);
        due.is("1: carryOut", x.carryOut(), -3);
        due.is("1: wipe", x.wipe(), 0);
    }

    private static void promise2Set() {
        PianoCrews x = new PianoCrews();
        int[] first = {10, 5, 4, 4};
        int[] low = {0, 1, 0, 1};
        int[] high = {50, 20, 20, 6};
        for (int s = 0; s < 4; s++) {
            due.is("2: below " + s, x.set(s, low[s] - 1), BAD_VALUE);
            due.is("2: above " + s, x.set(s, high[s] + 1), BAD_VALUE);
            due.is("2: kept " + s, x.count(10 + s), first[s]);
            due.is("2: lowest " + s, x.set(s, low[s]), first[s]);
            due.is("2: is lowest " + s, x.count(10 + s), low[s]);
            due.is("2: highest " + s, x.set(s, high[s]), low[s]);
            due.is("2: is highest " + s, x.count(10 + s), high[s]);
        }
        due.is("2: setting -1", x.set(-1, 1), BAD_VALUE);
        due.is("2: setting 4", x.set(4, 1), BAD_VALUE);
        due.is("2: far settings", x.set(Integer.MAX_VALUE, 1), BAD_VALUE);
        due.is("2: far settings", x.set(Integer.MIN_VALUE, 1), BAD_VALUE);
        due.is("2: far value", x.set(0, Integer.MIN_VALUE), BAD_VALUE);
    }

    private static void promise2SetWorks() {
        PianoCrews x = new PianoCrews();
        x.job(100, 2, 3, 0, 50);
        due.is("2: load by 10", x.ofJob(0, 6), 120);
        x.set(PianoCrews.STEP, 25);
        due.is("2: load by 25", x.ofJob(0, 6), 150);
        x.person(100);
        x.person(60);
        x.set(PianoCrews.HANDS, 1);
        due.is("2: one hand", x.why(0, 3, NONE), 2);
        x.set(PianoCrews.HANDS, 2);
        due.is("2: two hands", x.begin(0, 3, NONE), 150);
        x.set(PianoCrews.STEP, 50);
        due.is("2: the load is kept", x.ofJob(0, 6), 150);
        x.set(PianoCrews.TIRE, 20);
        x.set(PianoCrews.HANDS, 1);
        x.pass(1);
        due.is("2: tired by 20", x.of(0, 1), 80);
        due.is("2: tired by 20", x.of(1, 1), 40);
        x.set(PianoCrews.REST, 7);
        x.pass(1);
        due.is("2: rested by 7", x.of(0, 1), 87);
        due.is("2: rested by 7", x.of(1, 1), 47);
    }

    private static void promise3Person() {
        PianoCrews x = new PianoCrews();
        due.is("3: 9", x.person(9), BAD_VALUE);
        due.is("3: 151", x.person(151), BAD_VALUE);
        due.is("3: -100", x.person(-100), BAD_VALUE);
        due.is("3: none came", x.count(1), 0);
        due.is("3: 10", x.person(10), 0);
        due.is("3: 150", x.person(150), 1);
        for (int n = 2; n < 10; n++) {
            due.is("3: the next one", x.person(20 + n), n);
        }
        due.is("3: the eleventh", x.person(50), TOO_MANY);
        due.is("3: a bad eleventh", x.person(9), BAD_VALUE);
        due.is("3: ten", x.count(1), 10);
        due.is("3: full", x.of(0, 0), 10);
        due.is("3: now", x.of(1, 1), 150);
        due.is("3: no job", x.of(9, 2), NONE);
        due.is("3: full of the last", x.of(9, 0), 29);
    }

    private static void promise4Buy() {
        PianoCrews x = new PianoCrews();
        due.is("4: kind -1", x.buy(-1), NO_SUCH);
        due.is("4: kind 3", x.buy(3), NO_SUCH);
        due.is("4: NONE", x.buy(NONE), NO_SUCH);
        for (int n = 3; n <= 9; n++) {
            due.is("4: one more", x.buy(1), n);
            due.is("4: is free", x.straps(1, 1), n);
        }
        due.is("4: a tenth", x.buy(1), TOO_MANY);
        due.is("4: nine", x.straps(1, 0), 9);
        due.is("4: another kind", x.straps(0, 0), 2);
        due.is("4: another kind", x.buy(0), 3);
        due.is("4: another kind", x.buy(2), 3);
        due.is("4: changes", x.count(15), 6);
    }

    private static void promise5Job() {
        PianoCrews x = new PianoCrews();
        int[][] wrong = {
            {49, 0, 1, 0, 0}, {601, 0, 1, 0, 0}, {50, -1, 1, 0, 0}, {50, 10, 1, 0, 0}, {50, 0, 0, 0, 0},
            {50, 0, 10, 0, 0}, {50, 0, 1, -1, 0}, {50, 0, 1, 4, 0}, {50, 0, 1, 0, -1}, {50, 0, 1, 0, 1000},
        };
        for (int[] w : wrong) {
            due.is("5: wrong", x.job(w[0], w[1], w[2], w[3], w[4]), BAD_VALUE);
        }
        due.is("5: none came", x.count(3), 0);
        due.is("5: the least", x.job(50, 0, 1, 0, 0), 0);
        due.is("5: the most", x.job(600, 9, 9, 3, 999), 1);
        int[] told = {600, 9, 9, 3, 999, 0, 1140, 0, NONE, 0, 0, NONE, 0};
        for (int what = 0; what < told.length; what++) {
            due.is("5: ofJob(1, " + what + ")", x.ofJob(1, what), told[what]);
        }
        for (int n = 2; n < 16; n++) {
            due.is("5: the next one", x.job(60, 1, 2, 1, 9), n);
        }
        due.is("5: the 17th", x.job(60, 1, 2, 1, 9), TOO_MANY);
        due.is("5: a bad 17th", x.job(60, 1, 2, 1, 1000), BAD_VALUE);
        x.callOff(3);
        due.is("5: so far counts", x.job(60, 1, 2, 1, 9), TOO_MANY);
        due.is("5: waiting", x.count(4), 0xFFF7);
    }

    private static void promise6Begin() {
        PianoCrews x = new PianoCrews();
        x.person(100);
        x.person(100);
        x.job(199, 1, 2, 0, 9);
        due.is("6: no job", x.begin(1, 1, 9), NO_SUCH);
        due.is("6: no job", x.begin(-1, 1, NONE), NO_SUCH);
        due.is("6: straps 3", x.begin(0, 3, 3), BAD_VALUE);
        due.is("6: straps -1", x.begin(0, 3, -1), BAD_VALUE);
        due.is("6: empty", x.begin(0, 0, NONE), NOT_POSSIBLE);
        due.is("6: too weak", x.begin(0, 3, NONE), NOT_POSSIBLE);
        due.is("6: ground straps", x.begin(0, 3, 2), NOT_POSSIBLE);
        due.is("6: a stranger", x.begin(0, 7, 1), NOT_POSSIBLE);
        due.is("6: nothing changed", x.count(15), 3);
        due.is("6: waits", x.ofJob(0, 5), 0);
        // 199 * 110 / 100 = 218 (rounded down), 218 * 90 / 100 = 196 (rounded down)
        due.is("6: the load", x.ofJob(0, 6), 218);
        due.is("6: begins", x.begin(0, 3, 1), 196);
        due.is("6: again", x.begin(0, 3, 1), NOT_POSSIBLE);
        due.is("6: errors by order", x.begin(0, 3, 3), BAD_VALUE);
    }

    private static void promise6BeginPlaces() {
        PianoCrews x = new PianoCrews();
        x.person(100);
        x.person(90);
        x.person(80);
        x.job(100, 0, 2, 0, 9);
        x.job(50, 0, 2, 0, 9);
        due.is("6: with kind 2", x.begin(0, 5, 2), 80);
        due.is("6: its load", x.ofJob(0, 6), 80);
        due.is("6: its crew", x.ofJob(0, 7), 5);
        due.is("6: its straps", x.ofJob(0, 8), 2);
        due.is("6: is being done", x.ofJob(0, 5), 1);
        due.is("6: free straps", x.straps(2, 1), 1);
        due.is("6: all straps", x.straps(2, 0), 2);
        due.is("6: at it", x.of(0, 2), 0);
        due.is("6: not at it", x.of(1, 2), NONE);
        due.is("6: at it", x.of(2, 2), 0);
        due.is("6: those at a job", x.count(2), 5);
        due.is("6: busy", x.begin(1, 3, NONE), NOT_POSSIBLE);
        due.is("6: exactly enough", x.begin(1, 2, NONE), 50);
        due.is("6: job 1", x.of(1, 2), 1);
        due.is("6: all", x.count(2), 7);
    }

    private static void promise7AssignOrder() {
        PianoCrews x = new PianoCrews();
        due.is("7: nothing there", x.assign(), 0);
        x.person(60);
        x.person(60);
        x.job(55, 0, 1, 1, 5);
        x.job(55, 0, 1, 2, 9);
        x.job(55, 0, 1, 2, 8);
        x.job(55, 0, 1, 2, 8);
        due.is("7: the first two", x.assign(), 0b1100);
        due.is("7: the strongest, lowest one", x.ofJob(2, 7), 1);
        due.is("7: the next one", x.ofJob(3, 7), 2);
        due.is("7: nobody left", x.assign(), 0);
        x.pass(1);
        due.is("7: the next ones", x.assign(), 0b0011);
        due.is("7: job 1 comes first", x.ofJob(1, 7), 1);
        due.is("7: changes", x.count(15), 6);
    }

    private static void promise7AssignStraps() {
        PianoCrews x = new PianoCrews();
        x.person(90);
        x.person(90);
        x.job(100, 0, 1, 0, 9);
        // 100 without, 95 with kind 0: two people; 90 with kind 1 and 80 with kind 2: one
        due.is("7: begun", x.assign(), 1);
        due.is("7: the first one with the fewest", x.ofJob(0, 8), 1);
        due.is("7: one person", x.ofJob(0, 7), 1);
        due.is("7: the load", x.ofJob(0, 6), 90);
        x.job(180, 0, 1, 0, 9);
        due.is("7: alone it is too heavy", x.assign(), 0);
        x.pass(1);
        due.is("7: both, and straps, for they are tired", x.assign(), 2);
        due.is("7: kind 0", x.ofJob(1, 8), 0);
        due.is("7: 180 * 95 / 100", x.ofJob(1, 6), 171);
    }

    private static void promise7AssignSharesOut() {
        PianoCrews x = new PianoCrews();
        for (int n = 0; n < 4; n++) {
            x.person(90);
            x.job(100, 0, 1, 0, 9);
        }
        x.job(100, 1, 1, 3, 9);
        // The job on the floor 1 has 110, 104, 99: two people without straps. Then kind 1 for two jobs alone.
        due.is("7: all that can", x.assign(), 0b10011);
        due.is("7: without straps", x.ofJob(4, 8), NONE);
        due.is("7: two people", x.ofJob(4, 7), 3);
        due.is("7: straps of job 0", x.ofJob(0, 8), 1);
        due.is("7: straps of job 1", x.ofJob(1, 8), 1);
        due.is("7: none are free", x.straps(1, 1), 0);
        due.is("7: a weaker one skips none behind", x.count(4), 0b01100);
        PianoCrews y = new PianoCrews();
        y.person(60);
        y.job(600, 0, 1, 3, 0);
        y.job(60, 0, 1, 0, 9);
        due.is("7: one that cannot is passed over", y.assign(), 2);
    }

    private static void promise8Delay() {
        PianoCrews x = new PianoCrews();
        x.person(100);
        x.job(50, 0, 3, 0, 9);
        due.is("8: no job", x.delay(1, 0), NO_SUCH);
        due.is("8: no job", x.delay(-1, 1), NO_SUCH);
        due.is("8: 0 hours", x.delay(0, 0), BAD_VALUE);
        due.is("8: 21 hours", x.delay(0, 21), BAD_VALUE);
        due.is("8: waits", x.delay(0, 1), NOT_POSSIBLE);
        x.begin(0, 1, NONE);
        due.is("8: 1", x.delay(0, 1), 1);
        due.is("8: 20 more", x.delay(0, 20), 21);
        due.is("8: 20 more", x.delay(0, 20), 41);
        due.is("8: 61", x.delay(0, 20), NOT_POSSIBLE);
        due.is("8: still", x.ofJob(0, 9), 41);
        due.is("8: 60", x.delay(0, 19), 60);
        due.is("8: 61", x.delay(0, 1), NOT_POSSIBLE);
        x.pass(1);
        due.is("8: one gone", x.ofJob(0, 9), 59);
        due.is("8: 60 again", x.delay(0, 1), 60);
        x.callOff(0);
        due.is("8: called off", x.delay(0, 1), NOT_POSSIBLE);
        due.is("8: called off", x.delay(0, 21), BAD_VALUE);
        x.job(50, 0, 1, 0, 9);
        x.begin(1, 1, NONE);
        x.pass(1);
        due.is("8: done", x.delay(1, 1), NOT_POSSIBLE);
    }

    private static void promise9CallOff() {
        PianoCrews x = new PianoCrews();
        x.person(100);
        x.person(70);
        x.job(100, 1, 3, 0, 9);
        x.job(50, 0, 1, 0, 9);
        x.job(80, 0, 1, 0, 9);
        due.is("9: no job", x.callOff(3), NO_SUCH);
        due.is("9: no job", x.callOff(-1), NO_SUCH);
        x.begin(0, 3, 1);
        x.pass(1);
        due.is("9: its crew", x.callOff(0), 3);
        due.is("9: how it is", x.ofJob(0, 5), 3);
        due.is("9: the crew is kept", x.ofJob(0, 7), 3);
        due.is("9: the straps are kept", x.ofJob(0, 8), 1);
        due.is("9: the load is kept", x.ofJob(0, 6), 99);
        due.is("9: the hours are kept", x.ofJob(0, 2), 2);
        due.is("9: the crew is free", x.count(2), 0);
        due.is("9: person 1 is free", x.of(1, 2), NONE);
        due.is("9: the straps are free", x.straps(1, 1), 2);
        due.is("9: it was not done with them", x.of(0, 4), 0);
        due.is("9: never done", x.ofJob(0, 11), NONE);
        due.is("9: again", x.callOff(0), NOT_POSSIBLE);
        due.is("9: one that waits", x.callOff(2), 0);
        x.set(PianoCrews.STEP, 50);
        due.is("9: a kept load stays", x.ofJob(0, 6), 99);
        x.begin(1, 1, NONE);
        x.pass(1);
        due.is("9: one that is done", x.callOff(1), NOT_POSSIBLE);
        due.is("9: the order", x.waiting(0), NO_SUCH);
        x.pass(20);
        due.is("9: called off is not late", x.count(7), 0);
    }

    private static void promise10Pass() {
        PianoCrews x = new PianoCrews();
        due.is("10: 0", x.pass(0), BAD_VALUE);
        due.is("10: 100", x.pass(100), BAD_VALUE);
        due.is("10: -1", x.pass(-1), BAD_VALUE);
        x.person(100);
        x.person(50);
        x.person(120);
        x.job(100, 0, 1, 0, 0);
        x.job(100, 0, 3, 0, 2);
        x.begin(0, 1, NONE);
        x.begin(1, 4, NONE);
        due.is("10: one is done", x.pass(1), 1);
        due.is("10: at the hour 0", x.ofJob(0, 11), 0);
        due.is("10: not late", x.ofJob(0, 12), 0);
        due.is("10: who carried does not rest", x.of(0, 1), 96);
        due.is("10: free", x.of(0, 2), NONE);
        due.is("10: a job done with this person", x.of(0, 4), 1);
        due.is("10: hours of carrying", x.of(0, 3), 1);
        due.is("10: the next hour", x.count(0), 1);
        due.is("10: another one", x.pass(2), 1);
        due.is("10: at the hour 2", x.ofJob(1, 11), 2);
        due.is("10: not late", x.ofJob(1, 12), 0);
        due.is("10: rested, full at most", x.of(0, 1), 100);
        due.is("10: tired thrice", x.of(2, 1), 108);
        due.is("10: carried thrice", x.of(2, 3), 3);
        due.is("10: hours of jobs", x.count(8), 4);
        due.is("10: nobody else carried", x.of(1, 3), 0);
        due.is("10: none left", x.ofJob(1, 2), 0);
        due.is("10: done", x.count(6), 3);
        x.job(50, 0, 1, 0, 2);
        x.begin(2, 1, NONE);
        due.is("10: at the hour 3", x.pass(99), 1);
        due.is("10: at the hour 3", x.ofJob(2, 11), 3);
        due.is("10: late", x.ofJob(2, 12), 1);
        due.is("10: hours", x.count(0), 102);
    }

    private static void promise10Pauses() {
        PianoCrews x = new PianoCrews();
        x.set(PianoCrews.TIRE, 20);
        x.set(PianoCrews.REST, 10);
        x.person(50);
        x.person(15);
        x.job(60, 0, 2, 0, 9);
        due.is("10: begins", x.begin(0, 3, NONE), 60);
        x.pass(1);
        due.is("10: tired", x.of(0, 1), 30);
        due.is("10: 0 at least", x.of(1, 1), 0);
        due.is("10: one left", x.ofJob(0, 2), 1);
        x.pass(1);
        due.is("10: paused", x.ofJob(0, 10), 1);
        due.is("10: rests", x.of(0, 1), 40);
        due.is("10: rests", x.of(1, 1), 10);
        due.is("10: no carrying", x.of(0, 3), 1);
        due.is("10: one left", x.ofJob(0, 2), 1);
        due.is("10: is being done", x.ofJob(0, 5), 1);
        x.pass(1);
        due.is("10: paused", x.count(9), 2);
        due.is("10: full at most", x.of(1, 1), 15);
        due.is("10: done", x.pass(1), 1);
        due.is("10: at the hour 3", x.ofJob(0, 11), 3);
        due.is("10: hours carried", x.count(8), 2);
        due.is("10: tired", x.of(0, 1), 30);
    }

    private static void promise10Delays() {
        PianoCrews x = new PianoCrews();
        x.person(100);
        x.person(100);
        x.job(150, 0, 2, 0, 9);
        x.begin(0, 3, 2);
        x.pass(1);
        due.is("10: tired", x.of(0, 1), 96);
        x.delay(0, 2);
        due.is("10: delayed", x.pass(1), 0);
        due.is("10: one hour less", x.ofJob(0, 9), 1);
        due.is("10: the crew rests", x.of(0, 1), 100);
        due.is("10: not paused", x.ofJob(0, 10), 0);
        due.is("10: not carried", x.count(8), 1);
        due.is("10: not carried", x.of(1, 3), 1);
        due.is("10: still one left", x.ofJob(0, 2), 1);
        due.is("10: the straps are at it", x.straps(2, 1), 1);
        due.is("10: the delay, then the hour", x.pass(2), 1);
        due.is("10: the straps are free", x.straps(2, 1), 2);
        due.is("10: done at", x.ofJob(0, 11), 3);
        due.is("10: its crew was", x.ofJob(0, 7), 3);
        due.is("10: its straps were", x.ofJob(0, 8), 2);
        due.is("10: its load was", x.ofJob(0, 6), 120);
    }

    private static void promise10Bound() {
        PianoCrews x = new PianoCrews();
        for (int n = 0; n < 100; n++) {
            due.is("10: 99 hours", x.pass(99), 0);
        }
        due.is("10: 9900", x.count(0), 9900);
        due.is("10: 9998", x.pass(98), 0);
        due.is("10: 10000", x.pass(2), NOT_POSSIBLE);
        due.is("10: BAD_VALUE first", x.pass(100), BAD_VALUE);
        due.is("10: 9999", x.pass(1), 0);
        due.is("10: 10000", x.pass(1), NOT_POSSIBLE);
        due.is("10: 9999", x.count(0), 9999);
        x.person(100);
        x.job(60, 0, 2, 0, 9);
        x.begin(0, 1, NONE);
        due.is("19: the bound does not matter", x.doneIn(0), 2);
    }

    /** As many people and jobs as there can be, all at once. */
    private static void promise10FullHouse() {
        PianoCrews x = new PianoCrews();
        for (int person = 0; person < 10; person++) {
            x.person(60);
        }
        for (int job = 0; job < 16; job++) {
            x.job(60, 0, 1, 0, 20);
        }
        due.is("7: ten of them", x.ifAssigned(), 0x3FF);
        due.is("7: ten of them", x.assign(), 0x3FF);
        due.is("7: the last one's crew", x.ofJob(9, 7), 1 << 9);
        due.is("10: all ten", x.pass(1), 10);
        // 56 each: one person with kind 1 (54) or kind 2 (48), two without straps or with kind 0 (57)
        due.is("7: the others", x.assign(), 0xFC00);
        due.is("7: with kind 1", x.ofJob(10, 8), 1);
        due.is("7: with kind 1", x.ofJob(11, 8), 1);
        due.is("7: with kind 2", x.ofJob(12, 8), 2);
        due.is("7: with kind 2", x.ofJob(13, 8), 2);
        due.is("7: without", x.ofJob(14, 8), NONE);
        due.is("7: two people", x.ofJob(15, 7), 0b11000000);
        due.is("10: the others", x.pass(1), 6);
        due.is("15: all are done", x.count(6), 0xFFFF);
        due.is("15: hours", x.count(8), 16);
    }
}
