/** The boundary cases that the promises 11 to 20 name: what there is, and what if. */
public final class QuestionsEdgesTest {
    private static final int NO_SUCH = Firms.NO_SUCH, BAD_VALUE = Firms.BAD_VALUE, NOT_POSSIBLE = Firms.NOT_POSSIBLE;
    private static final int NONE = Firms.NONE;
    private static final int[] NO_NUMBERS = {-1, NONE, Integer.MIN_VALUE, Integer.MAX_VALUE};
    private static final int[] NO_STRAPS = {-1, 3, -5, -7, Integer.MIN_VALUE, Integer.MAX_VALUE};
    private static final Due due = new Due();

    public static void main(String[] args) {
        ofNobody();
        ofBadWhat();
        ofTheJob();
        ofHoursOfCarrying();
        ofJobsThatWereDone();
        ofHoursUntilTheFullStrength();
        ofJobWithoutSuchAJob();
        ofJobBadWhat();
        ofJobHoursThatAreLeft();
        ofJobLoadOfOneThatWaits();
        ofJobLoadOfOneThatWasCalledOff();
        ofJobLoadAsItWasKept();
        ofJobCrew();
        ofJobStraps();
        ofJobDelayAndPauses();
        ofJobHourInWhichItWasDone();
        ofJobLate();
        waitingRanks();
        waitingNotSoMany();
        strapsWithoutSuchAKind();
        strapsBadWhat();
        strapsFreeOnes();
        countBadWhat();
        countSets();
        countHoursOfJobs();
        countHoursOfJobsThatWereCalledOff();
        countPadAndChanges();
        whyWithoutSuchAJob();
        whyBadStraps();
        whyItCan();
        crewWithoutSuchAJob();
        crewBadStraps();
        crewOfOneThatDoesNotWait();
        crewNone();
        bestStrapsWithoutSuchAJob();
        bestStrapsOfOneThatDoesNotWait();
        bestStrapsNone();
        bestStrapsThree();
        bestStrapsIfItWasTheFirstOne();
        doneInWithoutSuchAJob();
        doneInOfOneThatIsNotBeingDone();
        doneInTheLeast();
        doneInTheMost();
        doneInAboveTheBoundOfHours();
        doneInChangesNothing();
        ifAssignedNothing();
        ifAssignedAsAssign();
        due.end();
    }

    // ---- 11: of

    private static void ofNobody() {
        due.says("11: NO_SUCH if there is no such person");
        due.is("without people", new PianoCrews().of(0, 0), NO_SUCH);
        PianoCrews x = Firms.of(9, 50);
        due.is("person 8", x.of(8, 0), 50);
        due.is("person 9", x.of(9, 0), NO_SUCH);
        x.person(60);
        due.is("person 9, who has come", x.of(9, 0), 60);
        due.is("person 10", x.of(10, 0), NO_SUCH);
        for (int person : NO_NUMBERS) {
            due.is("person " + person, x.of(person, 0), NO_SUCH);
        }
        x.undo();
        due.is("person 9, who is gone", x.of(9, 0), NO_SUCH);
    }

    private static void ofBadWhat() {
        due.says("11: BAD_VALUE if what is out of range");
        PianoCrews x = Firms.with(70);
        for (int what : NO_NUMBERS) {
            due.is("of(0, " + what + ")", x.of(0, what), BAD_VALUE);
        }
        due.is("of(0, 6)", x.of(0, 6), BAD_VALUE);
        int[] told = {70, 70, NONE, 0, 0, 0};
        for (int what = 0; what <= 5; what++) {
            due.is("of(0, " + what + ")", x.of(0, what), told[what]);
        }
    }

    private static void ofTheJob() {
        due.says("11: 2 the job (NONE)");
        PianoCrews x = Firms.with(100, 100, 100);
        for (int n = 0; n < 16; n++) {
            Firms.job(x, 50, 1);
        }
        x.begin(15, 2, NONE);
        x.begin(0, 4, NONE);
        due.is("at no job", x.of(0, Firms.JOB), NONE);
        due.is("at the last job", x.of(1, Firms.JOB), 15);
        due.is("at the job 0", x.of(2, Firms.JOB), 0);
        x.callOff(15);
        due.is("called off", x.of(1, Firms.JOB), NONE);
        x.pass(1);
        due.is("done", x.of(2, Firms.JOB), NONE);
    }

    private static void ofHoursOfCarrying() {
        due.says("11: 3 hours of carrying so far");
        PianoCrews x = Firms.carrying(100, 97, 2);
        x.delay(0, 1);
        x.pass(1);
        due.is("a delay", x.of(0, Firms.CARRIED), 0);
        x.pass(1);
        due.is("an hour of carrying", x.of(0, Firms.CARRIED), 1);
        x.pass(1);
        due.is("a pause", x.of(0, Firms.CARRIED), 1);
        x.pass(1);
        due.is("done", x.of(0, Firms.CARRIED), 2);
        x.pass(9);
        due.is("rest", x.of(0, Firms.CARRIED), 2);
        Firms.job(x, 50, 9);
        x.begin(1, 1, NONE);
        x.pass(1);
        x.callOff(1);
        due.is("of one that was called off, too", x.of(0, Firms.CARRIED), 3);
    }

    private static void ofJobsThatWereDone() {
        due.says("11: 4 jobs that were done with this person so far");
        PianoCrews x = Firms.with(100, 100, 100);
        for (int n = 0; n < 3; n++) {
            Firms.job(x, 50, n + 1);
        }
        x.begin(0, 3, NONE);
        due.is("begun", x.of(0, Firms.DONE_WITH), 0);
        x.pass(1);
        x.begin(1, 1, NONE);
        x.begin(2, 2, NONE);
        x.pass(2);
        x.callOff(2);
        due.is("two", x.of(0, Firms.DONE_WITH), 2);
        due.is("one, the other one was called off", x.of(1, Firms.DONE_WITH), 1);
        due.is("none", x.of(2, Firms.DONE_WITH), 0);
    }

    private static void ofHoursUntilTheFullStrength() {
        due.says("11: 5 hours until the full strength is back, if there is nothing but rest");
        PianoCrews x = Firms.carrying(100, 50, 9);
        due.is("it is full", x.of(0, Firms.UNTIL_FULL), 0);
        x.set(Firms.TIRE, 10);
        x.pass(1);
        int[] rests = {1, 5, 9, 10, 11, 20};
        int[] hours = {10, 2, 2, 1, 1, 1};
        for (int n = 0; n < rests.length; n++) {
            x.set(Firms.REST, rests[n]);
            due.is("10 by " + rests[n], x.of(0, Firms.UNTIL_FULL), hours[n]);
        }
        PianoCrews empty = Firms.with(150, 150);
        Firms.job(empty, 150, 9);
        empty.begin(0, 3, NONE);
        empty.set(Firms.TIRE, 20);
        empty.set(Firms.REST, 1);
        empty.pass(4);
        due.is("80 by 1", empty.of(0, Firms.UNTIL_FULL), 80);
        empty.callOff(0);
        empty.pass(79);
        due.is("one more", empty.of(0, Firms.UNTIL_FULL), 1);
        empty.pass(1);
        due.is("it is back", empty.of(0, Firms.UNTIL_FULL), 0);
        due.is("the full strength", empty.of(0, Firms.NOW), 150);
    }

    // ---- 12: ofJob

    private static void ofJobWithoutSuchAJob() {
        due.says("12: NO_SUCH if there is no such job");
        due.is("without jobs", new PianoCrews().ofJob(0, 0), NO_SUCH);
        PianoCrews x = new PianoCrews();
        for (int n = 0; n < 15; n++) {
            Firms.job(x, 50 + n, 1);
        }
        due.is("job 14", x.ofJob(14, 0), 64);
        due.is("job 15", x.ofJob(15, 0), NO_SUCH);
        Firms.job(x, 80, 1);
        due.is("job 15, which has come", x.ofJob(15, 0), 80);
        due.is("job 16", x.ofJob(16, 0), NO_SUCH);
        for (int job : NO_NUMBERS) {
            due.is("job " + job, x.ofJob(job, 0), NO_SUCH);
        }
    }

    private static void ofJobBadWhat() {
        due.says("12: BAD_VALUE if what is out of range");
        PianoCrews x = new PianoCrews();
        x.job(70, 2, 3, 1, 0);
        for (int what : NO_NUMBERS) {
            due.is("ofJob(0, " + what + ")", x.ofJob(0, what), BAD_VALUE);
        }
        due.is("ofJob(0, 13)", x.ofJob(0, 13), BAD_VALUE);
        int[] told = {70, 2, 3, 1, 0, 0, 84, 0, NONE, 0, 0, NONE, 0};
        for (int what = 0; what <= 12; what++) {
            due.is("ofJob(0, " + what + ")", x.ofJob(0, what), told[what]);
        }
    }

    private static void ofJobHoursThatAreLeft() {
        due.says("12: 2 hours that are left of it");
        PianoCrews x = Firms.carrying(100, 50, 9);
        for (int left = 9; left >= 0; left--) {
            due.is("hours", x.ofJob(0, Firms.LEFT), left);
            x.pass(1);
        }
        due.is("0 at least", x.ofJob(0, Firms.LEFT), 0);
    }

    private static void ofJobLoadOfOneThatWaits() {
        due.says("12: 6 its load: without straps by now, if it waits");
        PianoCrews x = new PianoCrews();
        x.job(101, 1, 1, 0, 9);
        due.is("101 * 110 / 100", x.ofJob(0, Firms.LOAD), 111);
        x.set(Firms.STEP, 0);
        due.is("101 * 100 / 100", x.ofJob(0, Firms.LOAD), 101);
        x.set(Firms.STEP, 50);
        due.is("101 * 150 / 100", x.ofJob(0, Firms.LOAD), 151);
    }

    private static void ofJobLoadOfOneThatWasCalledOff() {
        due.says("12: 6 its load: without straps by now, if it was called off as it waited");
        PianoCrews x = Firms.with(150);
        x.job(100, 1, 1, 0, 9);
        x.callOff(0);
        due.is("110", x.ofJob(0, Firms.LOAD), 110);
        x.set(Firms.STEP, 50);
        due.is("150 by now", x.ofJob(0, Firms.LOAD), 150);
        x.pass(1);
        x.set(Firms.STEP, 0);
        due.is("100 by now", x.ofJob(0, Firms.LOAD), 100);
    }

    private static void ofJobLoadAsItWasKept() {
        due.says("12: 6 its load: as it was kept");
        PianoCrews x = Firms.with(150, 150);
        x.job(100, 1, 1, 0, 9);
        x.job(100, 1, 9, 0, 9);
        x.begin(0, 1, 1);
        x.begin(1, 2, 0);
        x.set(Firms.STEP, 50);
        due.is("being done, with the kind 1", x.ofJob(0, Firms.LOAD), 99);
        due.is("being done, with the kind 0", x.ofJob(1, Firms.LOAD), 104);
        x.pass(1);
        due.is("done", x.ofJob(0, Firms.LOAD), 99);
        x.callOff(1);
        due.is("called off as it was being done", x.ofJob(1, Firms.LOAD), 104);
    }

    private static void ofJobCrew() {
        due.says("12: 7 its crew, as a set (that which was at it last; 0 without)");
        PianoCrews x = Firms.of(10, 100);
        for (int n = 0; n < 4; n++) {
            Firms.job(x, 50, n == 1 ? 1 : 9);
        }
        x.begin(1, 0b11, NONE);
        x.begin(2, 1 << 9, NONE);
        x.callOff(3);
        due.is("waits", x.ofJob(0, Firms.CREW), 0);
        due.is("being done", x.ofJob(1, Firms.CREW), 0b11);
        x.pass(1);
        x.callOff(2);
        due.is("done", x.ofJob(1, Firms.CREW), 0b11);
        due.is("called off", x.ofJob(2, Firms.CREW), 1 << 9);
        due.is("called off as it waited", x.ofJob(3, Firms.CREW), 0);
    }

    private static void ofJobStraps() {
        due.says("12: 8 its straps (those that were at it last; NONE)");
        PianoCrews x = Firms.of(5, 100);
        for (int n = 0; n < 5; n++) {
            Firms.job(x, 50, n == 1 || n == 4 ? 1 : 9);
        }
        x.begin(1, 1, 0);
        x.begin(2, 2, 2);
        x.callOff(3);
        x.begin(4, 4, NONE);
        due.is("waits", x.ofJob(0, Firms.KIND), NONE);
        due.is("being done", x.ofJob(1, Firms.KIND), 0);
        x.pass(1);
        x.callOff(2);
        due.is("done", x.ofJob(1, Firms.KIND), 0);
        due.is("called off", x.ofJob(2, Firms.KIND), 2);
        due.is("called off as it waited", x.ofJob(3, Firms.KIND), NONE);
        due.is("done without", x.ofJob(4, Firms.KIND), NONE);
    }

    private static void ofJobDelayAndPauses() {
        due.says("12: 9 its delay, 10 hours for which it was paused so far");
        PianoCrews x = Firms.carrying(100, 100, 2);
        due.is("no delay", x.ofJob(0, Firms.DELAY), 0);
        due.is("not paused", x.ofJob(0, Firms.PAUSED), 0);
        x.set(Firms.TIRE, 20);
        x.pass(1);
        due.is("carried", x.ofJob(0, Firms.PAUSED), 0);
        x.pass(3);
        due.is("80, 85, 90", x.ofJob(0, Firms.PAUSED), 3);
        x.delay(0, 2);
        x.pass(1);
        due.is("a delay", x.ofJob(0, Firms.DELAY), 1);
        due.is("a delay is no pause", x.ofJob(0, Firms.PAUSED), 3);
        x.pass(2);
        due.is("done", x.ofJob(0, Firms.HOW), 2);
        due.is("so far", x.ofJob(0, Firms.PAUSED), 3);
    }

    private static void ofJobHourInWhichItWasDone() {
        due.says("12: 11 the hour in which it was done (NONE)");
        PianoCrews x = Firms.everyState();
        due.is("waits", x.ofJob(0, Firms.DONE_AT), NONE);
        due.is("being done", x.ofJob(1, Firms.DONE_AT), NONE);
        due.is("done in the hour 0", x.ofJob(2, Firms.DONE_AT), 0);
        due.is("called off", x.ofJob(3, Firms.DONE_AT), NONE);
        x.pass(20);
        due.is("done in the hour 8", x.ofJob(1, Firms.DONE_AT), 8);
        due.is("it stays", x.ofJob(2, Firms.DONE_AT), 0);
    }

    private static void ofJobLate() {
        due.says("12: 12 whether it is late (1 or 0)");
        PianoCrews x = Firms.with(100);
        x.job(50, 0, 1, 0, 0);
        x.job(50, 0, 1, 0, 0);
        x.begin(0, 1, NONE);
        due.is("in its hour", x.ofJob(1, Firms.LATE), 0);
        x.pass(1);
        due.is("done in time", x.ofJob(0, Firms.LATE), 0);
        due.is("waits too long", x.ofJob(1, Firms.LATE), 1);
    }

    // ---- 13: waiting

    private static void waitingRanks() {
        due.says("13: rank: 0 for the first one");
        PianoCrews x = new PianoCrews();
        for (int n = 0; n < 16; n++) {
            x.job(50, 0, 1, n / 4, 99 - n % 4);
        }
        for (int rank = 0; rank < 16; rank++) {
            due.is("rank " + rank, x.waiting(rank), 15 - rank);
        }
        due.is("rank 16", x.waiting(16), NO_SUCH);
    }

    private static void waitingNotSoMany() {
        due.says("13: NO_SUCH if there are not so many");
        due.is("without jobs", new PianoCrews().waiting(0), NO_SUCH);
        PianoCrews x = Firms.everyState();
        due.is("rank 0", x.waiting(0), 0);
        due.is("rank 1, with four jobs so far", x.waiting(1), NO_SUCH);
        for (int rank : NO_NUMBERS) {
            due.is("rank " + rank, x.waiting(rank), NO_SUCH);
        }
        x.begin(0, 1, NONE);
        due.is("none waits", x.waiting(0), NO_SUCH);
        x.undo();
        due.is("one waits again", x.waiting(0), 0);
    }

    // ---- 14: straps

    private static void strapsWithoutSuchAKind() {
        due.says("14: NO_SUCH if there is no such kind");
        PianoCrews x = new PianoCrews();
        for (int kind : NO_NUMBERS) {
            due.is("kind " + kind, x.straps(kind, 0), NO_SUCH);
        }
        due.is("kind 3", x.straps(3, 1), NO_SUCH);
        due.is("kind 2", x.straps(2, 1), 2);
        due.is("kind 0", x.straps(0, 1), 2);
    }

    private static void strapsBadWhat() {
        due.says("14: BAD_VALUE if what is neither");
        PianoCrews x = new PianoCrews();
        for (int what : NO_NUMBERS) {
            due.is("straps(0, " + what + ")", x.straps(0, what), BAD_VALUE);
        }
        due.is("straps(2, 2)", x.straps(2, 2), BAD_VALUE);
    }

    private static void strapsFreeOnes() {
        due.says("14: 0 in all, 1 free ones");
        PianoCrews x = Firms.of(2, 100);
        Firms.job(x, 50, 9);
        Firms.job(x, 50, 1);
        x.begin(0, 1, 2);
        due.is("one is free", x.straps(2, 1), 1);
        x.begin(1, 2, 2);
        due.is("none is free", x.straps(2, 1), 0);
        due.is("two in all", x.straps(2, 0), 2);
        x.buy(2);
        due.is("a new one is free", x.straps(2, 1), 1);
        due.is("three in all", x.straps(2, 0), 3);
        x.pass(1);
        due.is("two are free", x.straps(2, 1), 2);
        x.callOff(0);
        due.is("all are free", x.straps(2, 1), 3);
        due.is("of another kind", x.straps(1, 1), 2);
    }

    // ---- 15: count

    private static void countBadWhat() {
        due.says("15: BAD_VALUE if what is out of range");
        PianoCrews x = new PianoCrews();
        for (int what : NO_NUMBERS) {
            due.is("count(" + what + ")", x.count(what), BAD_VALUE);
        }
        due.is("count(16)", x.count(16), BAD_VALUE);
        due.is("count(15)", x.count(15), 0);
        due.is("count(0)", x.count(0), 0);
    }

    private static void countSets() {
        due.says("15: 2 those at a job, as a set, 4 those that wait, 5 are being done, 6 are done, 7 are late, as sets");
        PianoCrews x = Firms.everyState();
        int[] sets = {0b010, 4, 0b0001, 0b0010, 0b0100, 0};
        for (int what = 2; what <= 7; what++) {
            due.is("count(" + what + ")", x.count(what), sets[what - 2]);
        }
        PianoCrews full = Firms.of(10, 60);
        for (int n = 0; n < 16; n++) {
            full.job(50, 0, 1, 0, 0);
        }
        due.is("all wait", full.count(4), 0xFFFF);
        full.assign();
        due.is("all people", full.count(2), 0x3FF);
        due.is("ten are being done", full.count(5), 0x03FF);
        due.is("six wait", full.count(4), 0xFC00);
        full.pass(1);
        due.is("ten are done", full.count(6), 0x03FF);
        due.is("six are late", full.count(7), 0xFC00);
        full.assign();
        full.pass(1);
        due.is("all are done", full.count(6), 0xFFFF);
        due.is("six were late", full.count(7), 0xFC00);
    }

    private static void countHoursOfJobs() {
        due.says("15: 8 hours of jobs that were carried (not of people), 9 that were paused so far, of all jobs");
        PianoCrews x = Firms.of(5, 100);
        Firms.job(x, 50, 2);
        Firms.job(x, 200, 2);
        x.begin(0, 0b00111, NONE);
        x.begin(1, 0b11000, NONE);
        x.pass(1);
        due.is("two jobs, not five people", x.count(8), 2);
        x.pass(1);
        due.is("one is carried", x.count(8), 3);
        due.is("one is paused", x.count(9), 1);
        x.pass(9);
        due.is("carried", x.count(8), 4);
        due.is("paused", x.count(9), 1);
    }

    private static void countHoursOfJobsThatWereCalledOff() {
        due.says("15: 8 hours of jobs that were carried, 9 that were paused so far, of all jobs");
        PianoCrews x = Firms.carrying(100, 100, 9);
        x.pass(2);
        x.callOff(0);
        due.is("carried", x.count(8), 1);
        due.is("paused", x.count(9), 1);
    }

    private static void countPadAndChanges() {
        due.says("15: 14 the length of the pad, 15 how many changes can be undone");
        PianoCrews x = new PianoCrews();
        for (int n = 1; n <= 10; n++) {
            Due.put(x, "abcdefgh");
            due.is("characters", x.count(14), 8 * n);
            x.pass(1);
            due.is("changes", x.count(15), Math.min(6, n));
        }
        x.undo();
        due.is("the pad is as long as before", x.count(14), 80);
        due.is("one less", x.count(15), 5);
        x.wipe();
        due.is("wiped", x.count(14), 0);
    }

    // ---- 16: why

    private static void whyWithoutSuchAJob() {
        due.says("16: NO_SUCH if there is no such job");
        PianoCrews x = Firms.with(100);
        due.is("without jobs", x.why(0, 1, NONE), NO_SUCH);
        Firms.job(x, 50, 1);
        for (int job : NO_NUMBERS) {
            due.is("job " + job, x.why(job, 1, NONE), NO_SUCH);
        }
        due.is("job 1", x.why(1, 1, NONE), NO_SUCH);
        due.is("job 16", x.why(16, 1, NONE), NO_SUCH);
    }

    private static void whyBadStraps() {
        due.says("16: BAD_VALUE if straps is out of range (0 to 2, or NONE)");
        PianoCrews x = Firms.with(100);
        Firms.job(x, 50, 1);
        for (int straps : NO_STRAPS) {
            due.is("straps " + straps, x.why(0, 1, straps), BAD_VALUE);
        }
        for (int straps = 0; straps <= 2; straps++) {
            due.is("straps " + straps, x.why(0, 1, straps), 0);
        }
        due.is("NONE", x.why(0, 1, NONE), 0);
    }

    private static void whyItCan() {
        due.says("16: Returns the reason, 1 to 5, or 0: it can");
        PianoCrews x = Firms.everyState();
        int[][] calls = {{0, 1, NONE}, {2, 1, NONE}, {0, 0, NONE}, {0, 2, NONE}};
        for (int reason = 0; reason < calls.length; reason++) {
            due.is("reason " + reason, x.why(calls[reason][0], calls[reason][1], calls[reason][2]), reason);
        }
        x.job(200, 1, 1, 0, 9);
        due.is("reason 4", x.why(4, 1, 2), 4);
        due.is("reason 5", x.why(4, 1, 1), 5);
        due.is("nothing changes", x.count(5), 0b0010);
    }

    // ---- 17: crew

    private static void crewWithoutSuchAJob() {
        due.says("17: NO_SUCH if there is no such job");
        PianoCrews x = Firms.with(100);
        due.is("without jobs", x.crew(0, NONE), NO_SUCH);
        Firms.job(x, 50, 1);
        for (int job : NO_NUMBERS) {
            due.is("job " + job, x.crew(job, NONE), NO_SUCH);
        }
        due.is("job 1", x.crew(1, NONE), NO_SUCH);
        due.is("job 16", x.crew(16, NONE), NO_SUCH);
    }

    private static void crewBadStraps() {
        due.says("17: BAD_VALUE if straps is out of range (0 to 2, or NONE)");
        PianoCrews x = Firms.with(100);
        Firms.job(x, 50, 1);
        for (int straps : NO_STRAPS) {
            due.is("straps " + straps, x.crew(0, straps), BAD_VALUE);
        }
        for (int straps = 0; straps <= 2; straps++) {
            due.is("straps " + straps, x.crew(0, straps), 1);
        }
        due.is("NONE", x.crew(0, NONE), 1);
    }

    private static void crewOfOneThatDoesNotWait() {
        due.says("17: NOT_POSSIBLE if the job does not wait");
        PianoCrews x = Firms.everyState();
        due.is("waits", x.crew(0, NONE), 1);
        for (int job = 1; job <= 3; job++) {
            due.is("job " + job, x.crew(job, NONE), NOT_POSSIBLE);
        }
    }

    private static void crewNone() {
        due.says("17: NONE if there is none");
        PianoCrews x = Firms.with(100);
        Firms.job(x, 50, 9);
        Firms.job(x, 100, 1);
        x.job(101, 1, 1, 0, 9);
        due.is("exactly enough", x.crew(1, NONE), 1);
        due.is("too heavy", x.crew(2, NONE), NONE);
        due.is("the kind 2 on the floor 1", x.crew(2, 2), NONE);
        due.is("the kind 1", x.crew(2, 1), 1);
        x.begin(0, 1, NONE);
        due.is("nobody is free", x.crew(1, NONE), NONE);
        due.is("nothing changes", x.count(4), 0b110);
    }

    // ---- 18: bestStraps

    private static void bestStrapsWithoutSuchAJob() {
        due.says("18: NO_SUCH if there is no such job");
        PianoCrews x = Firms.with(100);
        due.is("without jobs", x.bestStraps(0), NO_SUCH);
        Firms.job(x, 50, 1);
        for (int job : NO_NUMBERS) {
            due.is("job " + job, x.bestStraps(job), NO_SUCH);
        }
        due.is("job 1", x.bestStraps(1), NO_SUCH);
        due.is("job 16", x.bestStraps(16), NO_SUCH);
    }

    private static void bestStrapsOfOneThatDoesNotWait() {
        due.says("18: NOT_POSSIBLE if the job does not wait");
        PianoCrews x = Firms.everyState();
        due.is("waits", x.bestStraps(0), 3);
        for (int job = 1; job <= 3; job++) {
            due.is("job " + job, x.bestStraps(job), NOT_POSSIBLE);
        }
    }

    private static void bestStrapsNone() {
        due.says("18: NONE if there is no crew with any");
        PianoCrews x = new PianoCrews();
        Firms.job(x, 126, 1);
        Firms.job(x, 127, 1);
        due.is("nobody is there", x.bestStraps(0), NONE);
        x.person(100);
        due.is("100 with the kind 2", x.bestStraps(0), 2);
        due.is("101 with the kind 2", x.bestStraps(1), NONE);
        x.job(126, 1, 1, 0, 9);
        due.is("upstairs", x.bestStraps(2), NONE);
    }

    private static void bestStrapsThree() {
        due.says("18: Returns 0 to 2, or 3 for none");
        int[] weights = {100, 105, 111, 125};
        int[] best = {3, 0, 1, 2};
        for (int n = 0; n < 4; n++) {
            PianoCrews x = Firms.with(100, 100);
            Firms.job(x, weights[n], 1);
            due.is("one person for " + weights[n], x.bestStraps(0), best[n]);
            x.set(Firms.HANDS, 1);
            due.is("one person at most for " + weights[n], x.bestStraps(0), best[n]);
        }
        PianoCrews x = Firms.with(100, 100);
        Firms.job(x, 200, 1);
        due.is("two with any", x.bestStraps(0), 3);
    }

    private static void bestStrapsIfItWasTheFirstOne() {
        due.says("18: the straps with which assigning would begin a job now, if it was the first one");
        PianoCrews x = Firms.with(90, 90);
        x.job(90, 0, 1, 3, 0);
        x.job(100, 0, 1, 0, 9);
        due.is("the second one, as if it was the first one", x.bestStraps(1), 1);
        x.job(180, 0, 1, 0, 9);
        due.is("the third one with both", x.bestStraps(2), 3);
        due.is("nothing changes", x.count(4), 0b111);
    }

    // ---- 19: doneIn

    private static void doneInWithoutSuchAJob() {
        due.says("19: NO_SUCH if there is no such job");
        PianoCrews x = Firms.carrying(100, 50, 9);
        for (int job : NO_NUMBERS) {
            due.is("job " + job, x.doneIn(job), NO_SUCH);
        }
        due.is("job 1", x.doneIn(1), NO_SUCH);
        due.is("job 16", x.doneIn(16), NO_SUCH);
        due.is("without jobs", new PianoCrews().doneIn(0), NO_SUCH);
    }

    private static void doneInOfOneThatIsNotBeingDone() {
        due.says("19: NOT_POSSIBLE if it is not being done");
        PianoCrews x = Firms.everyState();
        due.is("waits", x.doneIn(0), NOT_POSSIBLE);
        due.is("is being done", x.doneIn(1), 8);
        due.is("is done", x.doneIn(2), NOT_POSSIBLE);
        due.is("is called off", x.doneIn(3), NOT_POSSIBLE);
    }

    private static void doneInTheLeast() {
        due.says("19: in how many hours a job that is being done is done, if nothing else is done");
        PianoCrews x = Firms.carrying(100, 100, 1);
        due.is("in this hour", x.doneIn(0), 1);
        x.delay(0, 1);
        due.is("after a delay", x.doneIn(0), 2);
        PianoCrews paused = Firms.carrying(100, 100, 2);
        due.is("with a pause", paused.doneIn(0), 3);
        paused.pass(1);
        due.is("in a pause", paused.doneIn(0), 2);
        due.is("so it is not in the first", paused.pass(1), 0);
        due.is("so it is in the second", paused.pass(1), 1);
    }

    /** The longest that the document's ranges let a job take, so that NONE is never reached. */
    private static void doneInTheMost() {
        due.says("19: Returns how many; NONE if it is not within 500");
        PianoCrews x = Firms.carrying(100, 100, 9);
        x.set(Firms.TIRE, 20);
        x.set(Firms.REST, 1);
        x.pass(1);
        x.delay(0, 20);
        x.delay(0, 20);
        x.delay(0, 20);
        // The crew is strong again within the delay; 7 times an hour and 20 of rest, and the last hour.
        due.is("a long one", x.doneIn(0), 60 + 7 * 21 + 1);
        due.is("none in so many", x.pass(99) + x.pass(99) + x.pass(9), 0);
        due.is("one more", x.doneIn(0), 1);
        due.is("so it is", x.pass(1), 1);
    }

    private static void doneInAboveTheBoundOfHours() {
        due.says("what if; nothing changes (the bound of hours does not matter)");
        PianoCrews x = Firms.atTheLastHour();
        x.person(100);
        Firms.job(x, 50, 9);
        x.begin(0, 1, NONE);
        x.delay(0, 20);
        due.is("above 9999", x.doneIn(0), 29);
        due.is("it cannot pass", x.pass(1), NOT_POSSIBLE);
        due.is("no hour has passed", x.count(0), 9999);
    }

    private static void doneInChangesNothing() {
        due.says("what if; nothing changes");
        PianoCrews x = Firms.everyState();
        x.delay(1, 3);
        String before = Firms.look(x);
        x.doneIn(1);
        x.ifAssigned();
        x.crew(0, NONE);
        x.bestStraps(0);
        x.why(0, 1, NONE);
        due.same("all that can be asked", Firms.look(x), before);
        x.undo();
        due.is("the change before is undone", x.ofJob(1, Firms.DELAY), 0);
    }

    // ---- 20: ifAssigned

    private static void ifAssignedNothing() {
        due.says("20: Returns the jobs, as a set: none");
        PianoCrews x = new PianoCrews();
        due.is("without people and jobs", x.ifAssigned(), 0);
        Firms.job(x, 127, 1);
        due.is("without people", x.ifAssigned(), 0);
        x.person(100);
        due.is("too heavy", x.ifAssigned(), 0);
        x.callOff(0);
        due.is("none waits", x.ifAssigned(), 0);
    }

    private static void ifAssignedAsAssign() {
        due.says("20: which jobs assigning now would begin");
        PianoCrews x = Firms.of(10, 60);
        for (int n = 0; n < 16; n++) {
            x.job(50, 0, 1, n / 4, 0);
        }
        due.is("ten by priority", x.ifAssigned(), 0xFF30);
        due.is("again", x.ifAssigned(), 0xFF30);
        due.is("as assign()", x.assign(), 0xFF30);
        due.is("nobody is free", x.ifAssigned(), 0);
    }
}
