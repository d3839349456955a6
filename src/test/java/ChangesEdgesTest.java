/** The boundary cases that the promises 1 to 10 name: a new object, and the changes. */
public final class ChangesEdgesTest {
    private static final int NO_SUCH = Firms.NO_SUCH, BAD_VALUE = Firms.BAD_VALUE, TOO_MANY = Firms.TOO_MANY;
    private static final int NOT_POSSIBLE = Firms.NOT_POSSIBLE, NONE = Firms.NONE;
    private static final Due due = new Due();

    public static void main(String[] args) {
        aNewObject();
        newObjectsAreApart();
        setReturnsThePrevious();
        setWithoutSuchASetting();
        setOutOfRange();
        personReturnsTheNumber();
        personOutOfRange();
        personTooMany();
        buyReturnsHowMany();
        buyWithoutSuchAKind();
        buyTooMany();
        jobReturnsItsNumber();
        jobOutOfRange();
        jobTooMany();
        beginReturnsTheLoad();
        beginWithoutSuchAJob();
        beginWithBadStraps();
        beginWhenItCannot();
        assignReturnsASet();
        assignNothing();
        delayReturnsTheDelayThen();
        delayWithoutSuchAJob();
        delayOutOfRange();
        delayOfOneThatIsNotBeingDone();
        delayAboveSixty();
        callOffReturnsTheCrew();
        callOffWithoutSuchAJob();
        callOffOfOneThatHasEnded();
        passReturnsHowMany();
        passOutOfRange();
        passToTheLastHour();
        due.end();
    }

    private static void aNewObject() {
        due.says("1: Creates a firm without people and jobs, in the hour 0");
        due.same("all that can be asked", Firms.look(new PianoCrews()),
            "counts 0 0 0 0 0 0 0 0 0 0 10 5 4 4; straps 2 2; straps 2 2; straps 2 2; assigned 0; "
                + "pad 0 fault 0; changes 0");
        PianoCrews x = new PianoCrews();
        due.is("nobody", x.of(0, 0), NO_SUCH);
        due.is("no job", x.ofJob(0, 0), NO_SUCH);
        due.is("none waits", x.waiting(0), NO_SUCH);
        due.is("nothing is saved in the slot 0", x.restore(0), NOT_POSSIBLE);
        due.is("nothing is saved in the slot 1", x.restore(1), NOT_POSSIBLE);
        due.is("nothing can be undone", x.undo(), NOT_POSSIBLE);
    }

    private static void newObjectsAreApart() {
        due.says("1: Creates a firm without people and jobs, beside another one");
        PianoCrews other = Firms.everyState();
        other.set(Firms.STEP, 50);
        other.buy(2);
        other.save(1);
        Due.put(other, "w100");
        String before = Firms.look(other);
        PianoCrews x = new PianoCrews();
        due.is("people", x.count(1), 0);
        due.is("jobs", x.count(3), 0);
        due.is("hours", x.count(0), 0);
        due.is("STEP", x.count(10), 10);
        due.is("straps", x.straps(2, 0), 2);
        due.is("the pad", x.count(14), 0);
        due.is("the slot 1", x.restore(1), NOT_POSSIBLE);
        due.is("nothing to undo", x.undo(), NOT_POSSIBLE);
        x.person(10);
        x.job(600, 9, 9, 3, 0);
        x.pass(99);
        due.same("the other one", Firms.look(other), before);
    }

    // ---- 2: set

    private static void setReturnsThePrevious() {
        due.says("2: Returns the previous value");
        PianoCrews x = new PianoCrews();
        int[] first = {10, 5, 4, 4};
        for (int setting = 0; setting < 4; setting++) {
            due.is("the first one", x.set(setting, 2), first[setting]);
            due.is("the one before", x.set(setting, 3), 2);
            due.is("the same again", x.set(setting, 3), 3);
        }
    }

    private static void setWithoutSuchASetting() {
        due.says("2: BAD_VALUE if there is no such setting");
        PianoCrews x = new PianoCrews();
        int[] none = {-1, 4, NONE, Integer.MIN_VALUE, Integer.MAX_VALUE};
        for (int setting : none) {
            due.is("setting " + setting, x.set(setting, 5), BAD_VALUE);
        }
        due.is("the highest setting", x.set(3, 5), 4);
        due.is("the lowest setting", x.set(0, 5), 10);
    }

    private static void setOutOfRange() {
        due.says("2: BAD_VALUE if the value is out of its range");
        int[] low = {0, 1, 0, 1};
        int[] high = {50, 20, 20, 6};
        for (int setting = 0; setting < 4; setting++) {
            PianoCrews x = new PianoCrews();
            int was = x.count(10 + setting);
            int[] out = {low[setting] - 1, high[setting] + 1, Integer.MIN_VALUE, Integer.MAX_VALUE};
            for (int value : out) {
                due.is("set(" + setting + ", " + value + ")", x.set(setting, value), BAD_VALUE);
            }
            due.is("it stays", x.count(10 + setting), was);
            due.is("the lowest", x.set(setting, low[setting]), was);
            due.is("is set", x.count(10 + setting), low[setting]);
            due.is("the highest", x.set(setting, high[setting]), low[setting]);
            due.is("is set", x.count(10 + setting), high[setting]);
        }
    }

    // ---- 3: person

    private static void personReturnsTheNumber() {
        due.says("3: Returns the number");
        PianoCrews x = new PianoCrews();
        due.is("the first", x.person(10), 0);
        due.is("the second", x.person(150), 1);
        due.is("the weakest", x.of(0, Firms.FULL), 10);
        due.is("the strongest", x.of(1, Firms.FULL), 150);
        x.undo();
        due.is("the second again", x.person(80), 1);
    }

    private static void personOutOfRange() {
        due.says("3: BAD_VALUE if full is out of range (10 to 150)");
        PianoCrews x = new PianoCrews();
        int[] out = {9, 151, 0, -10, Integer.MIN_VALUE, Integer.MAX_VALUE};
        for (int full : out) {
            due.is("person(" + full + ")", x.person(full), BAD_VALUE);
        }
        due.is("nobody came", x.count(1), 0);
        due.is("10", x.person(10), 0);
        due.is("150", x.person(150), 1);
    }

    private static void personTooMany() {
        due.says("3: TOO_MANY if there are 10 people");
        PianoCrews x = Firms.of(9, 50);
        due.is("the tenth", x.person(50), 9);
        due.is("an eleventh", x.person(50), TOO_MANY);
        due.is("ten", x.count(1), 10);
        x.undo();
        due.is("the tenth again", x.person(60), 9);
        due.is("an eleventh again", x.person(60), TOO_MANY);
    }

    // ---- 4: buy

    private static void buyReturnsHowMany() {
        due.says("4: Returns how many of the kind there are then");
        PianoCrews x = Firms.with(100);
        Firms.job(x, 50, 1);
        x.begin(0, 1, 1);
        due.is("those at a job count", x.buy(1), 3);
        due.is("free ones", x.straps(1, 1), 2);
        due.is("another kind", x.buy(0), 3);
        due.is("another kind", x.buy(2), 3);
    }

    private static void buyWithoutSuchAKind() {
        due.says("4: NO_SUCH if there is no such kind");
        PianoCrews x = new PianoCrews();
        int[] none = {-1, 3, NONE, Integer.MIN_VALUE, Integer.MAX_VALUE};
        for (int kind : none) {
            due.is("buy(" + kind + ")", x.buy(kind), NO_SUCH);
        }
    }

    private static void buyTooMany() {
        due.says("4: TOO_MANY if there are 9");
        for (int kind = 0; kind < 3; kind++) {
            PianoCrews x = Firms.with(100);
            Firms.job(x, 50, 1);
            x.begin(0, 1, kind);
            for (int n = 0; n < 6; n++) {
                x.buy(kind);
            }
            due.is("the ninth", x.buy(kind), 9);
            due.is("a tenth, while one is at a job", x.buy(kind), TOO_MANY);
            due.is("nine", x.straps(kind, 0), 9);
            due.is("eight are free", x.straps(kind, 1), 8);
        }
    }

    // ---- 5: job

    private static void jobReturnsItsNumber() {
        due.says("5: Returns its number");
        PianoCrews x = new PianoCrews();
        due.is("the first", x.job(50, 0, 1, 0, 0), 0);
        due.is("the second", x.job(600, 9, 9, 3, 999), 1);
        int[][] told = {{50, 0, 1, 0, 0}, {600, 9, 9, 3, 999}};
        for (int job = 0; job < 2; job++) {
            for (int what = 0; what < 5; what++) {
                due.is("ofJob(" + job + ", " + what + ")", x.ofJob(job, what), told[job][what]);
            }
        }
    }

    private static void jobOutOfRange() {
        due.says("5: BAD_VALUE if an argument is out of range");
        int[] low = {50, 0, 1, 0, 0};
        int[] high = {600, 9, 9, 3, 999};
        PianoCrews x = new PianoCrews();
        for (int place = 0; place < 5; place++) {
            int[] out = {low[place] - 1, high[place] + 1, Integer.MIN_VALUE, Integer.MAX_VALUE};
            for (int value : out) {
                int[] given = {100, 1, 1, 1, 1};
                given[place] = value;
                due.is("argument " + place + ": " + value, job(x, given), BAD_VALUE);
            }
        }
        due.is("none came", x.count(3), 0);
        for (int place = 0; place < 5; place++) {
            int[] given = {100, 1, 1, 1, 1};
            given[place] = low[place];
            due.is("argument " + place + ": " + low[place], job(x, given), 2 * place);
            given[place] = high[place];
            due.is("argument " + place + ": " + high[place], job(x, given), 2 * place + 1);
        }
    }

    private static int job(PianoCrews x, int[] given) {
        return x.job(given[0], given[1], given[2], given[3], given[4]);
    }

    private static void jobTooMany() {
        due.says("5: TOO_MANY if there have been 16 jobs");
        PianoCrews x = new PianoCrews();
        for (int n = 0; n < 15; n++) {
            Firms.job(x, 50, 1);
            x.callOff(n);
        }
        due.is("the sixteenth", Firms.job(x, 50, 1), 15);
        due.is("a seventeenth", Firms.job(x, 50, 1), TOO_MANY);
        x.undo();
        due.is("the sixteenth again", Firms.job(x, 60, 1), 15);
        due.is("a seventeenth again", Firms.job(x, 60, 1), TOO_MANY);
    }

    // ---- 6: begin

    private static void beginReturnsTheLoad() {
        due.says("6: Returns the load (straps: 0 to 2, or NONE)");
        int[] kinds = {NONE, 0, 1, 2};
        int[] loads = {100, 95, 90, 80};
        for (int n = 0; n < 4; n++) {
            PianoCrews x = Firms.with(100);
            Firms.job(x, 100, 1);
            due.is("with " + kinds[n], x.begin(0, 1, kinds[n]), loads[n]);
            due.is("its load", x.ofJob(0, Firms.LOAD), loads[n]);
            due.is("its straps", x.ofJob(0, Firms.KIND), kinds[n]);
        }
    }

    private static void beginWithoutSuchAJob() {
        due.says("6: NO_SUCH if there is no such job");
        PianoCrews x = Firms.with(100);
        due.is("no jobs", x.begin(0, 1, NONE), NO_SUCH);
        Firms.job(x, 50, 1);
        int[] none = {-1, 1, NONE, 16, Integer.MIN_VALUE, Integer.MAX_VALUE};
        for (int job : none) {
            due.is("job " + job, x.begin(job, 1, NONE), NO_SUCH);
        }
        due.is("job 0", x.begin(0, 1, NONE), 50);
    }

    private static void beginWithBadStraps() {
        due.says("6: BAD_VALUE if straps is out of range");
        PianoCrews x = Firms.with(100);
        Firms.job(x, 50, 1);
        int[] out = {-1, 3, -5, -7, Integer.MIN_VALUE, Integer.MAX_VALUE};
        for (int straps : out) {
            due.is("straps " + straps, x.begin(0, 1, straps), BAD_VALUE);
        }
    }

    private static void beginWhenItCannot() {
        due.says("6: NOT_POSSIBLE if it cannot, as why() tells");
        PianoCrews x = Firms.with(100, 100, 100);
        Firms.job(x, 50, 9);
        x.job(200, 1, 9, 0, 9);
        x.begin(0, 1, NONE);
        int[][] calls = {{0, 2, NONE}, {1, 0, NONE}, {1, 3, NONE}, {1, 6, 2}, {1, 6, NONE}};
        for (int reason = 1; reason <= 5; reason++) {
            int[] call = calls[reason - 1];
            due.is("reason " + reason, x.why(call[0], call[1], call[2]), reason);
            due.is("cannot by " + reason, x.begin(call[0], call[1], call[2]), NOT_POSSIBLE);
        }
        due.is("it can", x.why(1, 6, 1), 0);
        due.is("it begins", x.begin(1, 6, 1), 198);
    }

    // ---- 7: assign

    private static void assignReturnsASet() {
        due.says("7: Returns the jobs that are begun, as a set");
        PianoCrews x = Firms.of(10, 60);
        for (int n = 0; n < 16; n++) {
            x.job(50, 0, 1, n == 0 || n == 15 ? 3 : n >= 8 ? 2 : 1, 0);
        }
        // By priority: 0 and 15, then 8 to 14, then 1 alone: ten people.
        due.is("the first ten", x.assign(), 0b1111111100000011);
        due.is("they are being done", x.count(5), 0b1111111100000011);
        due.is("again", x.assign(), 0);
        x.pass(1);
        due.is("the others", x.assign(), 0b0000000011111100);
    }

    private static void assignNothing() {
        due.says("7: Returns the jobs that are begun: none");
        PianoCrews x = new PianoCrews();
        due.is("without people and jobs", x.assign(), 0);
        x.person(100);
        due.is("without jobs", x.assign(), 0);
        Firms.job(x, 126, 1);
        due.is("not too heavy with straps of the kind 2: 100", x.assign(), 1);
        x.undo();
        x.callOff(0);
        due.is("none waits", x.assign(), 0);
        Firms.job(x, 127, 1);
        due.is("too heavy with any straps: 101", x.assign(), 0);
        PianoCrews nobody = new PianoCrews();
        Firms.job(nobody, 50, 1);
        due.is("without people", nobody.assign(), 0);
    }

    // ---- 8: delay

    private static void delayReturnsTheDelayThen() {
        due.says("8: Returns its delay then: so many hours more");
        PianoCrews x = Firms.carrying(100, 50, 9);
        due.is("1", x.delay(0, 1), 1);
        due.is("20 more", x.delay(0, 20), 21);
        x.pass(2);
        due.is("two less, and 3", x.delay(0, 3), 22);
        due.is("its delay", x.ofJob(0, Firms.DELAY), 22);
    }

    private static void delayWithoutSuchAJob() {
        due.says("8: NO_SUCH if there is no such job");
        PianoCrews x = Firms.carrying(100, 50, 9);
        int[] none = {-1, 1, NONE, 16, Integer.MIN_VALUE, Integer.MAX_VALUE};
        for (int job : none) {
            due.is("job " + job, x.delay(job, 1), NO_SUCH);
        }
    }

    private static void delayOutOfRange() {
        due.says("8: BAD_VALUE if hours is out of range (1 to 20)");
        PianoCrews x = Firms.carrying(100, 50, 9);
        int[] out = {0, 21, -1, Integer.MIN_VALUE, Integer.MAX_VALUE};
        for (int hours : out) {
            due.is("delay(0, " + hours + ")", x.delay(0, hours), BAD_VALUE);
        }
        due.is("20", x.delay(0, 20), 20);
        due.is("1", x.delay(0, 1), 21);
    }

    private static void delayOfOneThatIsNotBeingDone() {
        due.says("8: NOT_POSSIBLE if it is not being done");
        PianoCrews x = Firms.everyState();
        due.is("waits", x.delay(0, 1), NOT_POSSIBLE);
        due.is("is being done", x.delay(1, 1), 1);
        due.is("is done", x.delay(2, 1), NOT_POSSIBLE);
        due.is("is called off", x.delay(3, 1), NOT_POSSIBLE);
        x.callOff(1);
        due.is("is called off as it was being done", x.delay(1, 1), NOT_POSSIBLE);
    }

    private static void delayAboveSixty() {
        due.says("8: NOT_POSSIBLE if its delay would be above 60");
        PianoCrews x = Firms.carrying(100, 50, 9);
        x.delay(0, 20);
        x.delay(0, 20);
        x.delay(0, 1);
        due.is("61", x.delay(0, 20), NOT_POSSIBLE);
        due.is("60", x.delay(0, 19), 60);
        due.is("61", x.delay(0, 1), NOT_POSSIBLE);
        due.is("it stays", x.ofJob(0, Firms.DELAY), 60);
        x.pass(1);
        due.is("60 again", x.delay(0, 1), 60);
    }

    // ---- 9: callOff

    private static void callOffReturnsTheCrew() {
        due.says("9: Returns the crew that was at it, as a set");
        PianoCrews x = Firms.of(10, 100);
        Firms.job(x, 50, 9);
        Firms.job(x, 50, 9);
        Firms.job(x, 50, 9);
        x.begin(0, 1 << 9 | 1 << 4, 2);
        x.begin(1, 1, NONE);
        due.is("two", x.callOff(0), 1 << 9 | 1 << 4);
        due.is("one", x.callOff(1), 1);
        due.is("nobody, as it waited", x.callOff(2), 0);
        due.is("all are called off", x.ofJob(0, Firms.HOW) + x.ofJob(1, Firms.HOW) + x.ofJob(2, Firms.HOW), 9);
    }

    private static void callOffWithoutSuchAJob() {
        due.says("9: NO_SUCH if there is no such job");
        PianoCrews x = Firms.carrying(100, 50, 9);
        int[] none = {-1, 1, NONE, 16, Integer.MIN_VALUE, Integer.MAX_VALUE};
        for (int job : none) {
            due.is("job " + job, x.callOff(job), NO_SUCH);
        }
    }

    private static void callOffOfOneThatHasEnded() {
        due.says("9: NOT_POSSIBLE if it neither waits nor is being done");
        PianoCrews x = Firms.everyState();
        due.is("is done", x.callOff(2), NOT_POSSIBLE);
        due.is("it stays", x.ofJob(2, Firms.HOW), 2);
        due.is("is called off", x.callOff(3), NOT_POSSIBLE);
        due.is("waits", x.callOff(0), 0);
        due.is("again", x.callOff(0), NOT_POSSIBLE);
        due.is("is being done", x.callOff(1), 2);
        due.is("again", x.callOff(1), NOT_POSSIBLE);
    }

    // ---- 10: pass

    private static void passReturnsHowMany() {
        due.says("10: Returns how many jobs are done in them");
        PianoCrews x = Firms.with(100, 100, 100);
        for (int job = 0; job < 3; job++) {
            Firms.job(x, 50, job == 2 ? 5 : 2);
            x.begin(job, 1 << job, NONE);
        }
        due.is("none in the first hour", x.pass(1), 0);
        due.is("two in the second", x.pass(1), 2);
        due.is("one in the next ones", x.pass(99), 1);
        due.is("none is left", x.pass(99), 0);
        PianoCrews at = Firms.with(100, 100, 100);
        for (int job = 0; job < 3; job++) {
            Firms.job(at, 50, 1 + 3 * job);
            at.begin(job, 1 << job, NONE);
        }
        due.is("in three hours of one call", at.pass(7), 3);
    }

    private static void passOutOfRange() {
        due.says("10: BAD_VALUE if hours is out of range (1 to 99)");
        PianoCrews x = new PianoCrews();
        int[] out = {0, 100, -1, Integer.MIN_VALUE, Integer.MAX_VALUE};
        for (int hours : out) {
            due.is("pass(" + hours + ")", x.pass(hours), BAD_VALUE);
        }
        due.is("no hour has passed", x.count(0), 0);
        due.is("1", x.pass(1), 0);
        due.is("99", x.pass(99), 0);
        due.is("100 have passed", x.count(0), 100);
    }

    private static void passToTheLastHour() {
        due.says("10: NOT_POSSIBLE if there would be more than 9999 hours");
        PianoCrews x = new PianoCrews();
        for (int n = 0; n < 100; n++) {
            x.pass(99);
        }
        due.is("9998", x.pass(98), 0);
        due.is("10000", x.pass(2), NOT_POSSIBLE);
        due.is("10097", x.pass(99), NOT_POSSIBLE);
        due.is("none of them has passed", x.count(0), 9998);
        due.is("9999", x.pass(1), 0);
        due.is("10000", x.pass(1), NOT_POSSIBLE);
        due.is("all have passed", x.count(0), 9999);
        x.undo();
        due.is("9999 again", x.pass(1), 0);
    }
}
