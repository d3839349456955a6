/** Promises 11 to 20: what there is, and what if. */
public final class QuestionsTest {
    private static final int NO_SUCH = -1, BAD_VALUE = -2, NOT_POSSIBLE = -5, NONE = -6;
    private static final Due due = new Due();

    public static void main(String[] args) {
        promise11Of();
        promise12OfJob();
        promise12Late();
        promise13Waiting();
        promise14Straps();
        promise15Count();
        promise16WhyInOrder();
        promise16WhyEdges();
        promise17Crew();
        promise17CrewOfTheFree();
        promise18BestStraps();
        promise19DoneIn();
        promise20IfAssigned();
        due.end();
    }

    private static void promise11Of() {
        PianoCrews x = new PianoCrews();
        x.set(PianoCrews.TIRE, 11);
        x.set(PianoCrews.REST, 5);
        x.person(100);
        x.person(80);
        x.job(90, 0, 2, 0, 9);
        x.job(50, 0, 1, 0, 9);
        due.is("11: nobody", x.of(2, 9), NO_SUCH);
        due.is("11: nobody", x.of(-1, 0), NO_SUCH);
        due.is("11: what 6", x.of(0, 6), BAD_VALUE);
        due.is("11: what -1", x.of(1, -1), BAD_VALUE);
        due.is("11: nothing to rest", x.of(0, 5), 0);
        x.begin(1, 2, NONE);
        x.begin(0, 1, NONE);
        due.is("11: job", x.of(1, 2), 1);
        x.pass(1);
        due.is("11: full", x.of(0, 0), 100);
        due.is("11: now", x.of(0, 1), 89);
        due.is("11: job", x.of(0, 2), 0);
        due.is("11: carried", x.of(0, 3), 1);
        due.is("11: not done yet", x.of(0, 4), 0);
        due.is("11: 11 by 5 is 3 hours", x.of(0, 5), 3);
        due.is("11: done", x.of(1, 4), 1);
        due.is("11: free", x.of(1, 2), NONE);
        x.set(PianoCrews.REST, 11);
        due.is("11: 11 by 11 is 1 hour", x.of(0, 5), 1);
        x.set(PianoCrews.REST, 10);
        due.is("11: 11 by 10 is 2 hours", x.of(0, 5), 2);
        x.set(PianoCrews.REST, 1);
        due.is("11: 11 by 1 is 11 hours", x.of(0, 5), 11);
    }

    private static void promise12OfJob() {
        PianoCrews x = new PianoCrews();
        x.person(150);
        x.person(150);
        x.job(199, 3, 2, 1, 7);
        x.job(77, 9, 4, 2, 8);
        due.is("12: no job", x.ofJob(2, 20), NO_SUCH);
        due.is("12: no job", x.ofJob(-1, 0), NO_SUCH);
        due.is("12: what 13", x.ofJob(0, 13), BAD_VALUE);
        due.is("12: what -1", x.ofJob(0, -1), BAD_VALUE);
        // 199 * 130 / 100 = 258.7; 258 * 95 / 100 = 245.1
        due.is("12: load rounded down", x.ofJob(0, 6), 258);
        x.begin(0, 3, 0);
        int[] told = {199, 3, 2, 1, 7, 1, 245, 3, 0, 0, 0, NONE, 0};
        for (int what = 0; what < told.length; what++) {
            due.is("12: being done, " + what, x.ofJob(0, what), told[what]);
        }
        x.delay(0, 3);
        due.is("12: delay", x.ofJob(0, 9), 3);
        x.pass(5);
        int[] then = {199, 3, 0, 1, 7, 2, 245, 3, 0, 0, 0, 4, 0};
        for (int what = 0; what < then.length; what++) {
            due.is("12: done, " + what, x.ofJob(0, what), then[what]);
        }
        x.callOff(1);
        x.set(PianoCrews.STEP, 50);
        int[] off = {77, 9, 4, 2, 8, 3, 423, 0, NONE, 0, 0, NONE, 0};
        for (int what = 0; what < off.length; what++) {
            due.is("12: called off as it waited, " + what, x.ofJob(1, what), off[what]);
        }
        due.is("12: the kept load", x.ofJob(0, 6), 245);
    }

    private static void promise12Late() {
        PianoCrews x = new PianoCrews();
        x.person(100);
        x.job(50, 0, 2, 0, 1);
        x.job(50, 0, 2, 0, 0);
        x.job(50, 0, 2, 0, 2);
        x.begin(0, 1, NONE);
        due.is("12: at the deadline", x.ofJob(1, 12), 0);
        x.pass(1);
        due.is("12: above it", x.ofJob(1, 12), 1);
        due.is("12: being done at the deadline", x.ofJob(0, 12), 0);
        x.pass(1);
        due.is("12: done at the hour 1", x.ofJob(0, 12), 0);
        due.is("12: the hour 2", x.ofJob(2, 12), 0);
        due.is("15: late", x.count(7), 0b010);
        x.begin(2, 1, NONE);
        x.pass(1);
        due.is("12: being done above it", x.ofJob(2, 12), 1);
        x.pass(1);
        due.is("12: done at the hour 3", x.ofJob(2, 12), 1);
        due.is("15: late", x.count(7), 0b110);
        x.callOff(1);
        due.is("12: called off", x.ofJob(1, 12), 0);
        due.is("15: late", x.count(7), 0b100);
    }

    private static void promise13Waiting() {
        PianoCrews x = new PianoCrews();
        x.person(100);
        due.is("13: none", x.waiting(0), NO_SUCH);
        x.job(50, 0, 1, 0, 3);
        x.job(50, 0, 1, 3, 9);
        x.job(50, 0, 1, 3, 8);
        x.job(50, 0, 1, 1, 0);
        x.job(50, 0, 1, 3, 8);
        x.job(50, 0, 1, 0, 3);
        int[] order = {2, 4, 1, 3, 0, 5, NO_SUCH, NO_SUCH};
        for (int rank = 0; rank < order.length; rank++) {
            due.is("13: rank " + rank, x.waiting(rank), order[rank]);
        }
        due.is("13: rank -1", x.waiting(-1), NO_SUCH);
        due.is("13: far", x.waiting(Integer.MAX_VALUE), NO_SUCH);
        due.is("13: far", x.waiting(Integer.MIN_VALUE), NO_SUCH);
        x.begin(4, 1, NONE);
        x.callOff(3);
        int[] then = {2, 1, 0, 5, NO_SUCH};
        for (int rank = 0; rank < then.length; rank++) {
            due.is("13: then rank " + rank, x.waiting(rank), then[rank]);
        }
        x.pass(1);
        due.is("13: done does not wait", x.waiting(1), 1);
    }

    private static void promise14Straps() {
        PianoCrews x = new PianoCrews();
        due.is("14: kind -1", x.straps(-1, 5), NO_SUCH);
        due.is("14: kind 3", x.straps(3, 0), NO_SUCH);
        due.is("14: NONE", x.straps(NONE, 0), NO_SUCH);
        due.is("14: what 2", x.straps(0, 2), BAD_VALUE);
        due.is("14: what -1", x.straps(0, -1), BAD_VALUE);
        x.person(100);
        x.person(100);
        x.person(100);
        for (int n = 0; n < 3; n++) {
            x.job(50, 0, 2, 0, 9);
        }
        x.begin(0, 1, 0);
        due.is("14: one less", x.straps(0, 1), 1);
        x.begin(1, 2, 0);
        due.is("14: none", x.straps(0, 1), 0);
        due.is("14: in all", x.straps(0, 0), 2);
        due.is("14: another kind", x.straps(1, 1), 2);
        due.is("16: none free", x.why(2, 4, 0), 4);
        x.buy(0);
        due.is("14: bought", x.straps(0, 1), 1);
        due.is("16: one free", x.why(2, 4, 0), 0);
        x.callOff(1);
        due.is("14: back", x.straps(0, 1), 2);
        x.pass(2);
        due.is("14: all back", x.straps(0, 1), 3);
    }

    private static void promise15Count() {
        PianoCrews x = new PianoCrews();
        due.is("15: -1", x.count(-1), BAD_VALUE);
        due.is("15: 16", x.count(16), BAD_VALUE);
        due.is("15: far", x.count(Integer.MAX_VALUE), BAD_VALUE);
        for (int n = 0; n < 3; n++) {
            x.person(60);
        }
        for (int n = 0; n < 5; n++) {
            x.job(60, 0, n + 1, 0, n);
        }
        x.begin(0, 1, 1);
        x.begin(4, 4, NONE);
        x.callOff(3);
        x.put(97);
        x.pass(2);
        // job 0 is done at 0; job 4 carries once (60, then 56 is too weak) and is paused once
        int[] counts = {2, 3, 4, 5, 0b00110, 0b10000, 0b00001, 0b00010, 2, 1, 10, 5, 4, 4, 1, 6};
        for (int what = 0; what < counts.length; what++) {
            due.is("15: count(" + what + ")", x.count(what), counts[what]);
        }
    }

    private static void promise16WhyInOrder() {
        PianoCrews x = new PianoCrews();
        x.person(100);
        x.person(100);
        x.job(60, 1, 3, 0, 9);
        x.job(60, 1, 3, 0, 9);
        due.is("16: no job", x.why(2, 0, 9), NO_SUCH);
        due.is("16: no job", x.why(-1, 0, 9), NO_SUCH);
        due.is("16: straps 3", x.why(0, 0, 3), BAD_VALUE);
        due.is("16: straps -1", x.why(0, 0, -1), BAD_VALUE);
        due.is("16: straps -5", x.why(0, 1, -5), BAD_VALUE);
        due.is("16: straps -7", x.why(0, 1, -7), BAD_VALUE);
        x.begin(0, 1, NONE);
        due.is("16: 1 comes first", x.why(0, 0, 2), 1);
        due.is("16: bad straps come before", x.why(0, 0, 4), BAD_VALUE);
        due.is("16: 2 comes before 3", x.why(1, 5, 2), 2);
        due.is("16: 3 comes before 4", x.why(1, 3, 2), 3);
        x.job(600, 1, 3, 0, 9);
        due.is("16: 4 comes before 5", x.why(2, 2, 2), 4);
        due.is("16: 5", x.why(2, 2, NONE), 5);
        due.is("16: 0", x.why(1, 2, NONE), 0);
        due.is("16: nothing changes", x.count(5), 1);
        due.is("16: nothing is recorded", x.count(15), 6);
    }

    private static void promise16WhyEdges() {
        PianoCrews x = new PianoCrews();
        for (int n = 0; n < 6; n++) {
            x.person(20);
        }
        x.job(80, 0, 3, 0, 9);
        due.is("16: empty", x.why(0, 0, NONE), 2);
        due.is("16: person 6", x.why(0, 1 << 6 | 1, NONE), 2);
        due.is("16: negative", x.why(0, -1, NONE), 2);
        due.is("16: bit 31", x.why(0, Integer.MIN_VALUE | 15, NONE), 2);
        due.is("16: five people", x.why(0, 0b11111, NONE), 2);
        due.is("16: four people, exactly", x.why(0, 0b11011, NONE), 0);
        due.is("16: three people", x.why(0, 0b111, NONE), 5);
        due.is("16: three people, kind 2 is 64", x.why(0, 0b111, 2), 5);
        x.set(PianoCrews.HANDS, 6);
        due.is("16: six people", x.why(0, 0b111111, NONE), 0);
        x.job(80, 1, 3, 0, 9);
        due.is("16: kind 2 upstairs", x.why(1, 0b111111, 2), 4);
        due.is("16: kind 0 upstairs", x.why(1, 0b111111, 0), 0);
        due.is("16: 88 without, 79 with kind 1", x.why(1, 0b1111, NONE), 5);
        due.is("16: 88 without, 79 with kind 1", x.why(1, 0b1111, 1), 0);
        due.is("16: 83 with kind 0", x.why(1, 0b1111, 0), 5);
        x.callOff(0);
        due.is("16: called off", x.why(0, 0b1111, NONE), 1);
    }

    private static void promise17Crew() {
        PianoCrews x = new PianoCrews();
        x.job(140, 0, 3, 0, 9);
        due.is("17: nobody", x.crew(0, NONE), NONE);
        due.is("17: no job", x.crew(1, 9), NO_SUCH);
        due.is("17: no job", x.crew(-1, NONE), NO_SUCH);
        due.is("17: straps 3", x.crew(0, 3), BAD_VALUE);
        due.is("17: straps -1", x.crew(0, -1), BAD_VALUE);
        x.person(50);
        x.person(70);
        x.person(70);
        x.person(60);
        due.is("17: the strongest, exactly enough", x.crew(0, NONE), 0b0110);
        x.job(141, 0, 3, 0, 9);
        due.is("17: one more", x.crew(1, NONE), 0b1110);
        due.is("17: kind 0 makes 133", x.crew(1, 0), 0b0110);
        x.job(250, 0, 3, 0, 9);
        due.is("17: all four", x.crew(2, NONE), 0b1111);
        x.set(PianoCrews.HANDS, 3);
        due.is("17: more than HANDS", x.crew(2, NONE), NONE);
        due.is("17: 200 with kind 2", x.crew(2, 2), 0b1110);
        x.job(251, 0, 3, 0, 9);
        x.set(PianoCrews.HANDS, 6);
        due.is("17: more than there are", x.crew(3, NONE), NONE);
        x.job(50, 1, 3, 0, 9);
        due.is("17: the lowest of the strongest", x.crew(4, 0), 0b0010);
        due.is("17: kind 2 upstairs", x.crew(4, 2), NONE);
        due.is("17: nothing changes", x.count(2), 0);
        x.callOff(4);
        due.is("17: called off", x.crew(4, NONE), NOT_POSSIBLE);
        due.is("17: BAD_VALUE first", x.crew(4, 3), BAD_VALUE);
    }

    private static void promise17CrewOfTheFree() {
        PianoCrews x = new PianoCrews();
        x.person(100);
        x.person(90);
        x.person(98);
        x.job(50, 0, 9, 0, 9);
        x.job(50, 0, 1, 0, 9);
        x.job(60, 0, 1, 0, 9);
        due.is("17: person 0", x.crew(2, NONE), 0b001);
        x.begin(0, 1, 2);
        due.is("17: being done", x.crew(0, NONE), NOT_POSSIBLE);
        due.is("17: not one at a job", x.crew(2, NONE), 0b100);
        x.begin(1, 4, 2);
        due.is("17: none free of kind 2", x.crew(2, 2), NONE);
        due.is("17: who is left", x.crew(2, NONE), 0b010);
        x.pass(1);
        x.callOff(0);
        due.is("17: by the strength now", x.crew(2, NONE), 0b001);
        x.set(PianoCrews.TIRE, 20);
        x.begin(2, 1, NONE);
        x.pass(1);
        x.job(60, 0, 1, 0, 9);
        due.is("17: by the strength now", x.crew(3, NONE), 0b100);
        due.is("17: done", x.crew(2, NONE), NOT_POSSIBLE);
    }

    private static void promise18BestStraps() {
        PianoCrews x = new PianoCrews();
        x.job(100, 0, 1, 0, 9);
        due.is("18: no job", x.bestStraps(1), NO_SUCH);
        due.is("18: no job", x.bestStraps(-1), NO_SUCH);
        due.is("18: nobody", x.bestStraps(0), NONE);
        x.person(80);
        due.is("18: kind 2 only", x.bestStraps(0), 2);
        x.person(80);
        due.is("18: one person with kind 2", x.bestStraps(0), 2);
        x.job(100, 1, 1, 0, 9);
        due.is("18: two people, upstairs", x.bestStraps(1), 3);
        x.person(90);
        due.is("18: one person with kind 1", x.bestStraps(0), 1);
        x.person(99);
        due.is("18: 95 with kind 0", x.bestStraps(0), 0);
        due.is("18: 110, 104, 99", x.bestStraps(1), 1);
        x.person(100);
        due.is("18: one person without", x.bestStraps(0), 3);
        x.begin(0, 0b10000, NONE);
        due.is("18: being done", x.bestStraps(0), NOT_POSSIBLE);
        x.job(50, 0, 1, 0, 9);
        x.job(50, 0, 1, 0, 9);
        x.begin(2, 1, 1);
        x.begin(3, 2, 1);
        due.is("18: none free of kind 1", x.bestStraps(1), 3);
        due.is("18: nothing changes", x.count(4), 2);
        x.callOff(1);
        due.is("18: called off", x.bestStraps(1), NOT_POSSIBLE);
    }

    private static void promise19DoneIn() {
        PianoCrews x = new PianoCrews();
        x.person(100);
        x.person(40);
        x.job(98, 0, 3, 0, 9);
        due.is("19: no job", x.doneIn(1), NO_SUCH);
        due.is("19: no job", x.doneIn(-1), NO_SUCH);
        due.is("19: waits", x.doneIn(0), NOT_POSSIBLE);
        x.begin(0, 1, NONE);
        // 100 carry, 96 pause, 100 carry, 96 pause, 100 carry
        due.is("19: with pauses", x.doneIn(0), 5);
        x.delay(0, 20);
        due.is("19: with a delay", x.doneIn(0), 25);
        due.is("19: nothing changes", x.count(0), 0);
        due.is("19: nothing changes", x.of(0, 1), 100);
        due.is("19: nothing changes", x.ofJob(0, 9), 20);
        due.is("19: nothing is recorded", x.count(15), 5);
        x.pass(24);
        due.is("19: one more", x.doneIn(0), 1);
        due.is("19: so it is", x.pass(1), 1);
        due.is("19: done", x.doneIn(0), NOT_POSSIBLE);
        x.job(50, 0, 3, 0, 9);
        x.callOff(1);
        due.is("19: called off", x.doneIn(1), NOT_POSSIBLE);
        x.job(50, 0, 9, 0, 9);
        x.begin(2, 1, NONE);
        due.is("19: without pauses", x.doneIn(2), 9);
        x.set(PianoCrews.TIRE, 20);
        x.set(PianoCrews.REST, 1);
        x.pass(3);
        // 96 -> 36 after three hours; then 14 of rest, 20 less for each hour, 20 of rest
        due.is("19: by the settings now", x.doneIn(2), 14 + 1 + 5 * 21);
    }

    private static void promise20IfAssigned() {
        PianoCrews x = new PianoCrews();
        due.is("20: nothing there", x.ifAssigned(), 0);
        x.person(60);
        x.person(90);
        x.job(90, 0, 1, 1, 5);
        x.job(85, 0, 1, 2, 9);
        x.job(60, 1, 1, 0, 5);
        due.is("20: job 1, then job 2 with kind 1", x.ifAssigned(), 0b110);
        due.is("20: again", x.ifAssigned(), 0b110);
        due.is("20: nobody is at a job", x.count(2), 0);
        due.is("20: all wait", x.count(4), 7);
        due.is("20: no straps are gone", x.straps(1, 1), 2);
        due.is("20: no load is kept", x.ofJob(1, 7), 0);
        due.is("20: nothing is recorded", x.count(15), 5);
        due.is("20: as assign()", x.assign(), 0b110);
        due.is("20: none more", x.ifAssigned(), 0);
        due.is("20: kind 1", x.ofJob(2, 8), 1);
    }
}
