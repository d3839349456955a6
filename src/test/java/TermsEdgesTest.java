/** The boundary cases that "Terms" names: conventions, settings, people, straps, jobs, crews. */
public final class TermsEdgesTest {
    private static final int NO_SUCH = Firms.NO_SUCH, BAD_VALUE = Firms.BAD_VALUE, TOO_MANY = Firms.TOO_MANY;
    private static final int NOT_POSSIBLE = Firms.NOT_POSSIBLE, NONE = Firms.NONE;
    private static final Due due = new Due();

    public static void main(String[] args) {
        callsOfOneObject();
        firstErrorOfChanges();
        firstErrorOfQuestions();
        noneOnlyWithoutErrors();
        numberedFromZero();
        roundedDown();
        sets();
        settings();
        step();
        rest();
        tire();
        hands();
        people();
        strengthNow();
        strapsAtFirst();
        strapsLighten();
        jobsSoFar();
        howJobsAre();
        loads();
        reasonOne();
        reasonTwo();
        reasonThree();
        reasonFour();
        reasonFive();
        firstReason();
        loadIsKept();
        atTheJobUntilItIsDone();
        atTheJobUntilItIsCalledOff();
        crewTakesTheStrongest();
        crewIsEnough();
        crewIsNone();
        orderOfJobs();
        assignGoesThrough();
        assignGoesThroughAll();
        assignFewestPeople();
        assignFirstStrapsInTheRow();
        assignWithStrapsThatAreLeft();
        due.end();
    }

    private static void callsOfOneObject() {
        due.says("An object is used for at most 512 calls after it has been made");
        PianoCrews x = Firms.of(10, 100);
        for (int n = 0; n < 16; n++) {
            Firms.job(x, 50, 9);
        }
        for (int call = 27; call < 507; call += 3) {
            x.assign();
            Due.put(x, "n1");
        }
        due.is("call 507", x.carryOut() < 0 ? 1 : 0, 1);
        due.is("call 508", x.wipe(), 80);
        due.is("call 509", x.pass(99), 10);
        due.is("call 510", x.undo(), 5);
        due.is("call 511", x.count(5), 0x3FF);
        due.is("call 512", x.ofJob(9, Firms.LEFT), 9);
    }

    // ---- conventions

    private static void firstErrorOfChanges() {
        due.says("it names its errors in the order in which they are checked, and the first one that applies is returned");
        PianoCrews x = Firms.everyState();
        due.is("begin: no job, bad straps", x.begin(4, 1, 3), NO_SUCH);
        due.is("begin: bad straps, not possible", x.begin(2, 1, 3), BAD_VALUE);
        due.is("delay: no job, bad hours", x.delay(4, 0), NO_SUCH);
        due.is("delay: bad hours, not possible", x.delay(0, 0), BAD_VALUE);
        due.is("delay: bad hours, not possible", x.delay(0, 21), BAD_VALUE);
        due.is("restore: no slot, nothing saved", x.restore(2), BAD_VALUE);
        PianoCrews full = Firms.of(10, 50);
        due.is("person: out of range, too many", full.person(9), BAD_VALUE);
        for (int n = 0; n < 16; n++) {
            Firms.job(full, 50, 1);
        }
        due.is("job: out of range, too many", full.job(49, 0, 1, 0, 0), BAD_VALUE);
        due.is("job: out of range, too many", full.job(50, 0, 1, 0, 1000), BAD_VALUE);
        Due.put(full, "a".repeat(80));
        due.is("put: a bad code, too long", full.put(32), BAD_VALUE);
        due.is("put: no character, too long", full.put(0), BAD_VALUE);
        PianoCrews late = Firms.atTheLastHour();
        due.is("pass: bad hours, not possible", late.pass(100), BAD_VALUE);
    }

    private static void firstErrorOfQuestions() {
        due.says("it names its errors in the order in which they are checked, and the first one that applies is returned");
        PianoCrews x = Firms.everyState();
        due.is("of: nobody, bad what", x.of(3, 6), NO_SUCH);
        due.is("ofJob: no job, bad what", x.ofJob(4, 13), NO_SUCH);
        due.is("straps: no kind, bad what", x.straps(3, 2), NO_SUCH);
        due.is("why: no job, bad straps", x.why(4, 1, 3), NO_SUCH);
        due.is("why: bad straps, a reason", x.why(2, 0, 3), BAD_VALUE);
        due.is("crew: no job, bad straps", x.crew(4, 3), NO_SUCH);
        due.is("crew: bad straps, not possible", x.crew(2, 3), BAD_VALUE);
    }

    private static void noneOnlyWithoutErrors() {
        due.says("NONE (-6) is not an error; it is returned only if no error applies");
        PianoCrews x = new PianoCrews();
        Firms.job(x, 60, 1);
        Firms.job(x, 60, 1);
        x.callOff(1);
        due.is("crew: nobody there", x.crew(0, NONE), NONE);
        due.is("crew: nobody there, bad straps", x.crew(0, 3), BAD_VALUE);
        due.is("crew: nobody there, does not wait", x.crew(1, NONE), NOT_POSSIBLE);
        due.is("crew: nobody there, no job", x.crew(2, NONE), NO_SUCH);
        due.is("bestStraps: nobody there", x.bestStraps(0), NONE);
        due.is("bestStraps: nobody there, does not wait", x.bestStraps(1), NOT_POSSIBLE);
        due.is("bestStraps: nobody there, no job", x.bestStraps(2), NO_SUCH);
    }

    private static void numberedFromZero() {
        due.says("Everything is numbered from 0");
        PianoCrews x = new PianoCrews();
        due.is("the first person", x.person(50), 0);
        due.is("the first job", Firms.job(x, 50, 1), 0);
        due.is("the first rank", x.waiting(0), 0);
        due.is("the first kind", x.buy(0), 3);
        due.is("the first slot", x.save(0), 1);
        due.is("the first hour", x.count(0), 0);
        x.put('b');
        due.is("the first character", x.fault(), 0);
    }

    private static void roundedDown() {
        due.says("Divisions are rounded down");
        PianoCrews x = new PianoCrews();
        // 199 * 110 / 100 = 218.9; 218 * 90 / 100 = 196.2, but 218.9 * 90 / 100 would be 197.01
        x.job(199, 1, 1, 0, 9);
        due.is("199 on the floor 1", x.ofJob(0, Firms.LOAD), 218);
        x.person(150);
        x.person(150);
        due.is("with straps of the kind 1", x.begin(0, 3, 1), 196);
        // 59 * 95 / 100 = 56.05, 59 * 80 / 100 = 47.2
        Firms.job(x, 59, 1);
        x.person(150);
        due.is("59 with straps of the kind 0", x.begin(1, 4, 0), 56);
        x.undo();
        due.is("59 with straps of the kind 2", x.begin(1, 4, 2), 47);
    }

    private static void sets() {
        due.says("Sets of people, jobs and kinds of straps are bit masks");
        PianoCrews x = Firms.of(10, 100);
        for (int n = 0; n < 16; n++) {
            Firms.job(x, 50, 1);
        }
        due.is("the lowest and the highest person", x.begin(15, 1 | 1 << 9, NONE), 50);
        due.is("its crew", x.ofJob(15, Firms.CREW), 0b1000000001);
        due.is("those at a job", x.count(2), 0b1000000001);
        due.is("the highest job", x.count(5), 1 << 15);
        due.is("the others wait", x.count(4), 0x7FFF);
        due.is("called off", x.callOff(15), 0b1000000001);
    }

    // ---- settings

    private static void settings() {
        int[][] ranges = {{0, 50, 10}, {1, 20, 5}, {0, 20, 4}, {1, 6, 4}};
        for (int setting = 0; setting < ranges.length; setting++) {
            int[] range = ranges[setting];
            due.says("(In parentheses: range; first value.) setting " + setting);
            PianoCrews x = new PianoCrews();
            due.is("first value", x.count(10 + setting), range[2]);
            due.is("too small", x.set(setting, range[0] - 1), BAD_VALUE);
            due.is("too large", x.set(setting, range[1] + 1), BAD_VALUE);
            due.is("the smallest", x.set(setting, range[0]), range[2]);
            due.is("the largest", x.set(setting, range[1]), range[0]);
            due.is("the largest stays", x.count(10 + setting), range[1]);
        }
    }

    private static void step() {
        due.says("STEP (0 to 50; 10): hundredths by which a piano is heavier for each floor");
        PianoCrews x = new PianoCrews();
        x.job(100, 0, 1, 0, 9);
        x.job(100, 9, 1, 0, 9);
        due.is("10, floor 0", x.ofJob(0, Firms.LOAD), 100);
        due.is("10, floor 9", x.ofJob(1, Firms.LOAD), 190);
        x.set(Firms.STEP, 0);
        due.is("0, floor 9", x.ofJob(1, Firms.LOAD), 100);
        x.set(Firms.STEP, 50);
        due.is("50, floor 0", x.ofJob(0, Firms.LOAD), 100);
        due.is("50, floor 9", x.ofJob(1, Firms.LOAD), 550);
    }

    private static void rest() {
        due.says("REST (1 to 20; 5): strength that comes back in an hour of rest");
        int[] rests = {1, 5, 20};
        for (int rest : rests) {
            PianoCrews x = Firms.carrying(100, 50, 3);
            x.set(Firms.TIRE, 20);
            x.pass(3);
            x.set(Firms.REST, rest);
            x.pass(1);
            due.is("40, and " + rest, x.of(0, Firms.NOW), 40 + rest);
        }
    }

    private static void tire() {
        due.says("TIRE (0 to 20; 4): strength that goes in an hour of carrying");
        int[] tires = {0, 4, 20};
        for (int tire : tires) {
            PianoCrews x = Firms.carrying(100, 50, 3);
            x.set(Firms.TIRE, tire);
            x.pass(2);
            due.is("100, and twice " + tire + " less", x.of(0, Firms.NOW), 100 - 2 * tire);
        }
    }

    private static void hands() {
        due.says("HANDS (1 to 6; 4): people in a crew at most");
        int[] most = {1, 4, 6};
        for (int hands : most) {
            PianoCrews x = Firms.of(8, 100);
            Firms.job(x, 50, 1);
            x.set(Firms.HANDS, hands);
            due.is("so many as " + hands, x.why(0, (1 << hands) - 1, NONE), 0);
            due.is("more than " + hands, x.why(0, (1 << hands + 1) - 1, NONE), 2);
            Firms.job(x, 100 * hands, 1);
            due.is("so many by itself as " + hands, x.crew(1, NONE), (1 << hands) - 1);
            if (hands < 6) {
                Firms.job(x, 100 * hands + 1, 1);
                due.is("more by itself than " + hands, x.crew(2, NONE), NONE);
            }
        }
    }

    // ---- people, straps and jobs

    private static void people() {
        due.says("There are up to 10 people, numbered in the order in which they came, "
            + "each with a full strength (10 to 150)");
        PianoCrews x = new PianoCrews();
        due.is("9", x.person(9), BAD_VALUE);
        due.is("151", x.person(151), BAD_VALUE);
        for (int n = 0; n < 10; n++) {
            due.is("person " + n, x.person(n == 0 ? 10 : n == 1 ? 150 : 60 + n), n);
        }
        due.is("one more", x.person(60), TOO_MANY);
        due.is("the weakest", x.of(0, Firms.FULL), 10);
        due.is("the strongest", x.of(1, Firms.FULL), 150);
        due.is("the last one", x.of(9, Firms.FULL), 69);
    }

    private static void strengthNow() {
        due.says("a strength now, 0 to the full one (that at first)");
        PianoCrews x = Firms.with(70, 15);
        due.is("at first", x.of(1, Firms.NOW), 15);
        Firms.job(x, 60, 1);
        x.begin(0, 3, NONE);
        x.set(Firms.TIRE, 20);
        x.pass(1);
        due.is("0 at least", x.of(1, Firms.NOW), 0);
        x.set(Firms.REST, 20);
        x.pass(1);
        due.is("the full one at most", x.of(1, Firms.NOW), 15);
    }

    private static void strapsAtFirst() {
        due.says("There are straps of three kinds: 0, 1 and 2, two of each at first (9 at most)");
        PianoCrews x = new PianoCrews();
        due.is("kind -1", x.straps(-1, 0), NO_SUCH);
        due.is("kind 3", x.straps(3, 0), NO_SUCH);
        for (int kind = 0; kind < 3; kind++) {
            due.is("at first", x.straps(kind, 0), 2);
            for (int n = 3; n <= 9; n++) {
                due.is("one more", x.buy(kind), n);
            }
            due.is("a tenth", x.buy(kind), TOO_MANY);
            due.is("nine", x.straps(kind, 0), 9);
        }
    }

    private static void strapsLighten() {
        due.says("with them a load is lighter by 5, 10 and 20 hundredths; those of the kind 2 help on the floor 0 alone");
        int[] due100 = {95, 90, 80};
        for (int kind = 0; kind < 3; kind++) {
            PianoCrews x = Firms.with(100);
            Firms.job(x, 100, 1);
            due.is("100 with the kind " + kind, x.begin(0, 1, kind), due100[kind]);
        }
        PianoCrews x = Firms.with(100);
        x.job(50, 1, 1, 0, 9);
        due.is("the kind 1 on the floor 1", x.why(0, 1, 1), 0);
        due.is("the kind 2 on the floor 1", x.why(0, 1, 2), 4);
        x.set(Firms.STEP, 0);
        due.is("the kind 2 on the floor 1, as heavy as on the floor 0", x.why(0, 1, 2), 4);
    }

    private static void jobsSoFar() {
        due.says("There are up to 16 jobs so far, numbered in the order in which they came");
        PianoCrews x = Firms.with(100);
        for (int n = 0; n < 16; n++) {
            due.is("job " + n, x.job(50 + n, 0, 1, 0, 9), n);
            if (n < 15) {
                x.callOff(n);
            }
        }
        x.begin(15, 1, NONE);
        x.pass(1);
        due.is("none waits", x.count(4), 0);
        due.is("so far", x.count(3), 16);
        due.is("a seventeenth", x.job(50, 0, 1, 0, 9), TOO_MANY);
        due.is("the last one", x.ofJob(15, Firms.WEIGHT), 65);
    }

    private static void howJobsAre() {
        due.says("A job waits (0), is being done (1), is done (2), or is called off (3)");
        PianoCrews x = Firms.everyState();
        for (int how = 0; how <= 3; how++) {
            due.is("job " + how, x.ofJob(how, Firms.HOW), how);
        }
    }

    private static void loads() {
        due.says("The load of a job is (weight * (100 + STEP * floor)) / 100; with straps of a kind it is then "
            + "load * (100 less their hundredths) / 100");
        PianoCrews x = Firms.of(6, 150);
        x.set(Firms.HANDS, 6);
        x.job(600, 9, 1, 0, 9);
        x.set(Firms.STEP, 50);
        due.is("the heaviest", x.ofJob(0, Firms.LOAD), 3300);
        x.set(Firms.STEP, 0);
        due.is("without steps", x.ofJob(0, Firms.LOAD), 600);
        due.is("with straps of the kind 0", x.begin(0, 63, 0), 570);
        x.undo();
        due.is("with straps of the kind 1", x.begin(0, 63, 1), 540);
        x.undo();
        x.job(50, 0, 1, 0, 9);
        due.is("the lightest", x.begin(1, 1, 2), 40);
    }

    // ---- why a crew cannot begin

    private static void reasonOne() {
        due.says("1 the job does not wait");
        PianoCrews x = Firms.everyState();
        due.is("it waits", x.why(0, 1, NONE), 0);
        for (int job = 1; job <= 3; job++) {
            due.is("job " + job, x.why(job, 1, NONE), 1);
            due.is("it cannot begin", x.begin(job, 1, NONE), NOT_POSSIBLE);
        }
    }

    private static void reasonTwo() {
        due.says("2 the crew is empty, has more than HANDS people, or somebody who is not there");
        PianoCrews x = Firms.of(5, 100);
        Firms.job(x, 50, 1);
        due.is("empty", x.why(0, 0, NONE), 2);
        due.is("one", x.why(0, 1, NONE), 0);
        due.is("HANDS people", x.why(0, 0b11110, NONE), 0);
        due.is("more", x.why(0, 0b11111, NONE), 2);
        x.set(Firms.HANDS, 3);
        due.is("HANDS people then", x.why(0, 0b11100, NONE), 0);
        due.is("more then", x.why(0, 0b11110, NONE), 2);
        due.is("the last one", x.why(0, 1 << 4, NONE), 0);
        for (int bit = 5; bit < 32; bit++) {
            due.is("bit " + bit, x.why(0, 1 << bit, NONE), 2);
            due.is("bit " + bit + " beside one who is there", x.why(0, 1 | 1 << bit, NONE), 2);
        }
        due.is("all bits", x.why(0, -1, NONE), 2);
        PianoCrews ten = Firms.of(10, 100);
        Firms.job(ten, 50, 1);
        due.is("the tenth", ten.why(0, 1 << 9, NONE), 0);
        due.is("an eleventh", ten.why(0, 1 << 10, NONE), 2);
        PianoCrews nobody = new PianoCrews();
        Firms.job(nobody, 50, 1);
        due.is("nobody is there", nobody.why(0, 1, NONE), 2);
    }

    private static void reasonThree() {
        due.says("3 one of them is at a job");
        PianoCrews x = Firms.of(4, 100);
        Firms.job(x, 50, 9);
        Firms.job(x, 50, 1);
        x.begin(0, 0b0010, NONE);
        due.is("the one alone", x.why(1, 0b0010, NONE), 3);
        due.is("the one among others", x.why(1, 0b1111, NONE), 3);
        due.is("the others", x.why(1, 0b1101, NONE), 0);
    }

    private static void reasonFour() {
        due.says("4 no straps of the kind are free, or it is the kind 2, and the floor is not 0");
        for (int kind = 0; kind < 3; kind++) {
            PianoCrews x = Firms.of(3, 100);
            for (int n = 0; n < 3; n++) {
                Firms.job(x, 50, 9);
            }
            x.begin(0, 1, kind);
            due.is("one is free", x.why(1, 2, kind), 0);
            x.begin(1, 2, kind);
            due.is("none is free", x.why(2, 4, kind), 4);
            due.is("without", x.why(2, 4, NONE), 0);
            due.is("another kind", x.why(2, 4, (kind + 1) % 3), 0);
        }
        PianoCrews x = Firms.with(150);
        x.job(50, 0, 1, 0, 9);
        x.job(50, 1, 1, 0, 9);
        x.job(50, 9, 1, 0, 9);
        due.is("the kind 2 on the floor 0", x.why(0, 1, 2), 0);
        due.is("the kind 2 on the floor 1", x.why(1, 1, 2), 4);
        due.is("the kind 2 on the floor 9", x.why(2, 1, 2), 4);
        due.is("the kind 0 on the floor 9", x.why(2, 1, 0), 0);
        due.is("the kind 1 on the floor 9", x.why(2, 1, 1), 0);
    }

    private static void reasonFive() {
        due.says("5 the strength of all of them now, together, is less than the load with these straps");
        PianoCrews x = Firms.with(60, 50);
        Firms.job(x, 110, 1);
        Firms.job(x, 111, 1);
        due.is("as much as the load", x.why(0, 3, NONE), 0);
        due.is("one less", x.why(1, 3, NONE), 5);
        due.is("with straps it is 105", x.why(1, 3, 0), 0);
        due.is("one of them", x.why(0, 1, NONE), 5);
        PianoCrews tired = Firms.carrying(100, 50, 1);
        tired.pass(1);
        Firms.job(tired, 96, 1);
        Firms.job(tired, 97, 1);
        due.is("as much as the load now", tired.why(1, 1, NONE), 0);
        due.is("one less now", tired.why(2, 1, NONE), 5);
    }

    private static void firstReason() {
        due.says("unless one of these is so, the first one being the reason");
        PianoCrews x = Firms.with(50, 50);
        x.job(50, 0, 9, 0, 9);
        x.job(600, 1, 1, 0, 9);
        due.is("5", x.why(1, 2, NONE), 5);
        due.is("4 and 5", x.why(1, 2, 2), 4);
        x.begin(0, 1, NONE);
        due.is("3, 4 and 5", x.why(1, 3, 2), 3);
        due.is("2, 3, 4 and 5", x.why(1, 7, 2), 2);
        due.is("2, 4 and 5: empty", x.why(1, 0, 2), 2);
        x.callOff(1);
        due.is("1, 2, 3, 4 and 5", x.why(1, 7, 2), 1);
    }

    // ---- crews at their jobs

    private static void loadIsKept() {
        due.says("The load is kept as it is then");
        PianoCrews x = Firms.with(110, 10);
        x.job(100, 1, 3, 0, 9);
        x.begin(0, 1, NONE);
        x.set(Firms.TIRE, 0);
        x.set(Firms.STEP, 50);
        due.is("being done", x.ofJob(0, Firms.LOAD), 110);
        x.pass(1);
        due.is("it is not too heavy by now", x.ofJob(0, Firms.PAUSED), 0);
        x.pass(2);
        due.is("done", x.ofJob(0, Firms.LOAD), 110);
    }

    private static void atTheJobUntilItIsDone() {
        due.says("They and the straps are at the job until it is done");
        PianoCrews x = Firms.with(100, 100);
        Firms.job(x, 180, 2);
        x.set(Firms.TIRE, 20);
        x.set(Firms.REST, 20);
        x.begin(0, 3, 0);
        due.is("171", x.ofJob(0, Firms.LOAD), 171);
        x.delay(0, 1);
        for (int hour = 0; hour < 4; hour++) {
            // a delay, an hour of carrying, a pause (160 by then), an hour of carrying
            due.is("at a job, hour " + hour, x.count(2), 3);
            due.is("one is not free, hour " + hour, x.straps(0, 1), 1);
            due.is("done, hour " + hour, x.pass(1), hour == 3 ? 1 : 0);
        }
        due.is("nobody is at a job", x.count(2), 0);
        due.is("person 0", x.of(0, Firms.JOB), NONE);
        due.is("all straps are free", x.straps(0, 1), 2);
    }

    private static void atTheJobUntilItIsCalledOff() {
        due.says("They and the straps are at the job until it is done or called off");
        PianoCrews x = Firms.with(100, 100);
        Firms.job(x, 180, 9);
        x.begin(0, 3, 1);
        due.is("at a job", x.count(2), 3);
        x.callOff(0);
        due.is("nobody is at a job", x.count(2), 0);
        due.is("person 1", x.of(1, Firms.JOB), NONE);
        due.is("all straps are free", x.straps(1, 1), 2);
        PianoCrews without = Firms.carrying(100, 50, 9);
        without.callOff(0);
        for (int kind = 0; kind < 3; kind++) {
            due.is("no more than there were", without.straps(kind, 1), 2);
        }
    }

    // ---- crews by themselves

    private static void crewTakesTheStrongest() {
        due.says("the strongest one by the strength now is taken, of several the lowest number, then the next one");
        PianoCrews x = Firms.with(70, 80, 80, 70, 80);
        Firms.job(x, 80, 1);
        Firms.job(x, 81, 1);
        Firms.job(x, 161, 1);
        Firms.job(x, 241, 1);
        due.is("one of three", x.crew(0, NONE), 0b00010);
        due.is("two of three", x.crew(1, NONE), 0b00110);
        due.is("three of three", x.crew(2, NONE), 0b10110);
        due.is("then one of two", x.crew(3, NONE), 0b10111);
        x.begin(0, 0b00010, NONE);
        due.is("of those at no job", x.crew(1, NONE), 0b10100);
        x.pass(1);
        due.is("by the strength now: 76", x.crew(1, NONE), 0b10100);
        due.is("76 is more than 70", x.crew(2, NONE), 0b10110);
        due.is("then one of 70", x.crew(3, NONE), 0b10111);
    }

    private static void crewIsEnough() {
        due.says("until their strength together is as much as the load, or more");
        PianoCrews x = Firms.with(60, 50);
        Firms.job(x, 59, 1);
        Firms.job(x, 60, 1);
        Firms.job(x, 61, 1);
        due.is("more", x.crew(0, NONE), 1);
        due.is("as much", x.crew(1, NONE), 1);
        due.is("less", x.crew(2, NONE), 3);
        due.is("more with straps", x.crew(2, 0), 1);
    }

    private static void crewIsNone() {
        due.says("there is none if that takes more than HANDS people, or more than there are, "
            + "or the straps cannot be had by 4");
        PianoCrews x = Firms.of(5, 60);
        Firms.job(x, 240, 9);
        Firms.job(x, 241, 9);
        Firms.job(x, 300, 9);
        Firms.job(x, 301, 9);
        due.is("HANDS people", x.crew(0, NONE), 0b1111);
        due.is("more than HANDS people", x.crew(1, NONE), NONE);
        x.set(Firms.HANDS, 6);
        due.is("all there are", x.crew(2, NONE), 0b11111);
        due.is("more than there are", x.crew(3, NONE), NONE);
        Firms.job(x, 50, 9);
        Firms.job(x, 50, 9);
        x.job(50, 1, 9, 0, 9);
        due.is("the kind 2 on the floor 1", x.crew(6, 2), NONE);
        due.is("the kind 1 on the floor 1", x.crew(6, 1), 1);
        x.begin(4, 1, 1);
        due.is("one is free", x.crew(6, 1), 2);
        x.begin(5, 2, 1);
        due.is("none is free", x.crew(6, 1), NONE);
        due.is("without", x.crew(6, NONE), 4);
    }

    // ---- jobs by priority and deadline

    private static void orderOfJobs() {
        due.says("Jobs that wait come by priority, the highest first, of these by deadline, the earliest first, "
            + "of these by number");
        PianoCrews x = new PianoCrews();
        int[][] jobs = {{0, 0}, {3, 999}, {3, 0}, {2, 5}, {2, 4}, {2, 5}, {0, 0}, {3, 0}, {1, 999}};
        for (int[] job : jobs) {
            x.job(50, 0, 1, job[0], job[1]);
        }
        int[] order = {2, 7, 1, 4, 3, 5, 8, 0, 6};
        for (int rank = 0; rank < order.length; rank++) {
            due.is("rank " + rank, x.waiting(rank), order[rank]);
        }
    }

    private static void assignGoesThrough() {
        due.says("each one for which there is a crew by itself is begun with it");
        PianoCrews x = Firms.with(60, 60);
        x.job(600, 0, 1, 3, 0);
        x.job(50, 0, 1, 0, 1);
        x.job(50, 0, 1, 0, 2);
        x.job(50, 0, 1, 0, 0);
        due.is("one without a crew is passed over, the last one finds nobody", x.assign(), 0b1010);
        due.is("the earliest first", x.ofJob(3, Firms.CREW), 1);
        due.is("then the next one", x.ofJob(1, Firms.CREW), 2);
        due.is("a heavy one waits", x.ofJob(0, Firms.HOW), 0);
    }

    private static void assignGoesThroughAll() {
        due.says("To assign is to go through the jobs that wait in this order");
        PianoCrews x = Firms.with(60);
        for (int n = 0; n < 16; n++) {
            x.job(n == 7 ? 50 : 600, 0, 1, n == 7 ? 0 : 1, 0);
        }
        due.is("the last one of sixteen, if assigned", x.ifAssigned(), 1 << 7);
        due.is("the last one of sixteen", x.assign(), 1 << 7);
    }

    private static void assignFewestPeople() {
        due.says("with the straps, of NONE, 0, 1 and 2, with which that crew has the fewest people");
        int[] weights = {100, 105, 111, 126, 127};
        int[] kinds = {NONE, 0, 1, 2, NONE};
        int[] crews = {1, 1, 1, 1, 3};
        for (int n = 0; n < weights.length; n++) {
            PianoCrews x = Firms.with(100, 100);
            Firms.job(x, weights[n], 1);
            due.is("begun: " + weights[n], x.assign(), 1);
            due.is("straps of " + weights[n], x.ofJob(0, Firms.KIND), kinds[n]);
            due.is("crew of " + weights[n], x.ofJob(0, Firms.CREW), crews[n]);
        }
    }

    private static void assignFirstStrapsInTheRow() {
        due.says("of several the first one in this row");
        // Two people are needed without straps; alone, 80 is enough for 84 by each kind, for 88 by 1 and 2.
        int[] weights = {80, 84, 88, 100};
        int[] best = {3, 0, 1, 2};
        for (int n = 0; n < weights.length; n++) {
            PianoCrews x = Firms.with(80, 80);
            Firms.job(x, weights[n], 1);
            due.is("best of " + weights[n], x.bestStraps(0), best[n]);
            x.assign();
            due.is("straps of " + weights[n], x.ofJob(0, Firms.KIND), best[n] == 3 ? NONE : best[n]);
        }
    }

    private static void assignWithStrapsThatAreLeft() {
        due.says("Jobs that are begun have their straps, and the next ones have what is left");
        PianoCrews x = Firms.of(10, 80);
        for (int n = 0; n < 7; n++) {
            Firms.job(x, 84, 1);
        }
        // The kinds 0, 1 and 2 for two jobs each, then two people without straps.
        due.is("all begin", x.assign(), 0b1111111);
        int[] kinds = {0, 0, 1, 1, 2, 2, NONE};
        for (int job = 0; job < kinds.length; job++) {
            due.is("straps of job " + job, x.ofJob(job, Firms.KIND), kinds[job]);
        }
        due.is("two people", x.ofJob(6, Firms.CREW), 0b11000000);
    }
}
