/** The boundary cases of "An hour", under "Terms". */
public final class HoursEdgesTest {
    private static final int NONE = Firms.NONE;
    private static final Due due = new Due();

    public static void main(String[] args) {
        delayGoesFirst();
        lastHourOfDelay();
        delayOfATiredCrew();
        pausedBelowTheLoad();
        pausedCrewRests();
        pausedEachForItself();
        noHoursForOthers();
        tiredToZero();
        tiredByNothing();
        doneWithNoHourLeft();
        doneAtThisHour();
        severalAreDoneInAnHour();
        freePeopleRest();
        whoGetsFreeDoesNotRestYet();
        restToTheFullStrength();
        theHourIsCounted();
        lateWhenDone();
        lateWhileItIsNotDone();
        neverLateWhenCalledOff();
        due.end();
    }

    private static void delayGoesFirst() {
        due.says("if it has a delay, that is one hour less, and its crew rests");
        PianoCrews x = Firms.carrying(100, 50, 5);
        x.pass(2);
        x.delay(0, 2);
        due.is("nothing is done", x.pass(1), 0);
        due.is("one hour less", x.ofJob(0, Firms.DELAY), 1);
        due.is("92, and 5 of rest", x.of(0, Firms.NOW), 97);
        due.is("hours that are left", x.ofJob(0, Firms.LEFT), 3);
        due.is("hours of carrying", x.of(0, Firms.CARRIED), 2);
        due.is("hours that were carried", x.count(8), 2);
        due.is("hours that were paused", x.count(9), 0);
        due.is("it is being done", x.ofJob(0, Firms.HOW), 1);
    }

    private static void lastHourOfDelay() {
        due.says("if it has a delay, that is one hour less");
        PianoCrews x = Firms.carrying(100, 50, 1);
        x.delay(0, 1);
        due.is("the last hour of the delay", x.pass(1), 0);
        due.is("no delay", x.ofJob(0, Firms.DELAY), 0);
        due.is("then it is carried", x.pass(1), 1);
        due.is("in the hour 1", x.ofJob(0, Firms.DONE_AT), 1);
    }

    private static void delayOfATiredCrew() {
        due.says("if it has a delay ...; otherwise, if the strength of its crew now is less than its load");
        PianoCrews x = Firms.carrying(100, 100, 2);
        x.set(Firms.TIRE, 20);
        x.pass(1);
        x.delay(0, 1);
        x.pass(1);
        due.is("a delay, and no pause", x.ofJob(0, Firms.PAUSED), 0);
        due.is("80, and 5 of rest once", x.of(0, Firms.NOW), 85);
        x.pass(1);
        due.is("a pause", x.ofJob(0, Firms.PAUSED), 1);
        due.is("no delay", x.ofJob(0, Firms.DELAY), 0);
    }

    private static void pausedBelowTheLoad() {
        due.says("if the strength of its crew now is less than its load, it is paused for this hour");
        // 96 after an hour
        PianoCrews same = Firms.carrying(100, 96, 3);
        same.pass(2);
        due.is("as much as the load", same.ofJob(0, Firms.PAUSED), 0);
        due.is("hours that are left", same.ofJob(0, Firms.LEFT), 1);
        PianoCrews less = Firms.carrying(100, 97, 3);
        less.pass(2);
        due.is("one less than the load", less.ofJob(0, Firms.PAUSED), 1);
        due.is("hours that are left", less.ofJob(0, Firms.LEFT), 2);
        PianoCrews two = Firms.with(50, 50);
        Firms.job(two, 92, 3);
        two.begin(0, 3, NONE);
        two.pass(2);
        due.is("two, as much as the load together", two.ofJob(0, Firms.PAUSED), 0);
    }

    private static void pausedCrewRests() {
        due.says("it is paused for this hour, and its crew rests");
        PianoCrews x = Firms.with(60, 40);
        Firms.job(x, 100, 2);
        x.begin(0, 3, NONE);
        x.set(Firms.TIRE, 8);
        x.pass(2);
        due.is("52, and 5 of rest", x.of(0, Firms.NOW), 57);
        due.is("32, and 5 of rest", x.of(1, Firms.NOW), 37);
        due.is("hours of carrying", x.of(0, Firms.CARRIED), 1);
        due.is("hours that were carried", x.count(8), 1);
        due.is("at the job", x.of(1, Firms.JOB), 0);
        due.is("done", x.pass(2), 1);
        due.is("paused twice", x.ofJob(0, Firms.PAUSED), 2);
        due.is("in the hour 3", x.ofJob(0, Firms.DONE_AT), 3);
    }

    private static void pausedEachForItself() {
        due.says("For each job that is being done, by numbers");
        PianoCrews x = Firms.of(3, 100);
        for (int job = 0; job < 3; job++) {
            Firms.job(x, job == 1 ? 100 : 50, 3);
        }
        x.begin(2, 1, NONE);
        x.begin(1, 2, NONE);
        x.begin(0, 4, NONE);
        x.delay(0, 1);
        x.pass(2);
        due.is("one hour of delay, one of carrying", x.ofJob(0, Firms.LEFT), 2);
        due.is("one of carrying, one of pause", x.ofJob(1, Firms.LEFT), 2);
        due.is("two of carrying", x.ofJob(2, Firms.LEFT), 1);
        due.is("hours that were carried", x.count(8), 4);
        due.is("hours that were paused", x.count(9), 1);
        due.is("a job that waits has no hours", Firms.job(x, 50, 1), 3);
        x.pass(1);
        due.is("it still waits", x.ofJob(3, Firms.LEFT), 1);
    }

    private static void noHoursForOthers() {
        due.says("For each job that is being done");
        PianoCrews x = Firms.everyState();
        x.delay(1, 3);
        x.callOff(1);
        due.is("none is done", x.pass(5), 0);
        due.is("one that waits", x.ofJob(0, Firms.LEFT), 1);
        due.is("one that was called off", x.ofJob(1, Firms.LEFT), 8);
        due.is("its delay", x.ofJob(1, Firms.DELAY), 3);
        due.is("one that is done", x.ofJob(2, Firms.LEFT), 0);
        due.is("one that was called off as it waited", x.ofJob(3, Firms.LEFT), 1);
        due.is("hours that were carried", x.count(8), 2);
        due.is("hours that were paused", x.count(9), 0);
    }

    private static void tiredToZero() {
        due.says("each of its crew has TIRE less strength (0 at least)");
        PianoCrews x = Firms.with(20, 19, 21, 100);
        Firms.job(x, 100, 2);
        x.begin(0, 15, NONE);
        x.set(Firms.TIRE, 20);
        x.pass(1);
        due.is("20", x.of(0, Firms.NOW), 0);
        due.is("19", x.of(1, Firms.NOW), 0);
        due.is("21", x.of(2, Firms.NOW), 1);
        due.is("100", x.of(3, Firms.NOW), 80);
        due.is("19, until it is back", x.of(1, Firms.UNTIL_FULL), 4);
    }

    private static void tiredByNothing() {
        due.says("each of its crew has TIRE less strength: TIRE is 0");
        PianoCrews x = Firms.carrying(100, 100, 9);
        x.set(Firms.TIRE, 0);
        due.is("never paused", x.pass(9), 1);
        due.is("as strong as ahead of it", x.of(0, Firms.NOW), 100);
    }

    private static void doneWithNoHourLeft() {
        due.says("with no hour left it is done");
        PianoCrews x = Firms.carrying(100, 50, 9);
        due.is("eight hours", x.pass(8), 0);
        due.is("one is left", x.ofJob(0, Firms.LEFT), 1);
        due.is("not done with anybody", x.of(0, Firms.DONE_WITH), 0);
        due.is("the ninth", x.pass(1), 1);
        due.is("none is left", x.ofJob(0, Firms.LEFT), 0);
        due.is("done", x.ofJob(0, Firms.HOW), 2);
        due.is("done with this person", x.of(0, Firms.DONE_WITH), 1);
        x.pass(1);
        due.is("nothing is carried any more", x.count(8), 9);
    }

    private static void doneAtThisHour() {
        due.says("it is done, at this hour (as the hours are counted ahead of it)");
        PianoCrews first = Firms.carrying(100, 50, 1);
        first.pass(1);
        due.is("in the first hour", first.ofJob(0, Firms.DONE_AT), 0);
        PianoCrews third = Firms.carrying(100, 50, 3);
        third.pass(9);
        due.is("in the third hour", third.ofJob(0, Firms.DONE_AT), 2);
        PianoCrews last = new PianoCrews();
        for (int n = 0; n < 100; n++) {
            last.pass(99);
        }
        last.pass(98);
        last.person(100);
        Firms.job(last, 50, 1);
        last.begin(0, 1, NONE);
        due.is("in the last hour", last.pass(1), 1);
        due.is("in the last hour", last.ofJob(0, Firms.DONE_AT), 9998);
    }

    private static void severalAreDoneInAnHour() {
        due.says("For each job that is being done, by numbers");
        PianoCrews x = Firms.of(10, 100);
        for (int job = 0; job < 10; job++) {
            Firms.job(x, 50, 1);
            x.begin(job, 1 << 9 - job, NONE);
        }
        due.is("all ten", x.pass(1), 10);
        due.is("the first one", x.of(9, Firms.DONE_WITH), 1);
        due.is("the last one", x.of(0, Firms.DONE_WITH), 1);
        due.is("nobody is at a job", x.count(2), 0);
    }

    private static void freePeopleRest() {
        due.says("Then all who were at no job when the hour began rest");
        PianoCrews x = Firms.with(100, 100);
        Firms.job(x, 50, 3);
        Firms.job(x, 50, 3);
        x.set(Firms.TIRE, 20);
        x.begin(0, 1, NONE);
        x.begin(1, 2, NONE);
        x.pass(2);
        x.callOff(0);
        x.pass(1);
        due.is("who was called off rests: 60, and 5", x.of(0, Firms.NOW), 65);
        due.is("who carries does not", x.of(1, Firms.NOW), 40);
        x.pass(1);
        due.is("who is free when the hour begins rests", x.of(1, Firms.NOW), 45);
    }

    private static void whoGetsFreeDoesNotRestYet() {
        due.says("all who were at no job when the hour began rest");
        PianoCrews x = Firms.carrying(100, 50, 2);
        x.pass(1);
        due.is("96", x.of(0, Firms.NOW), 96);
        x.pass(1);
        due.is("free in this hour, without rest", x.of(0, Firms.NOW), 92);
        due.is("free", x.of(0, Firms.JOB), NONE);
        x.pass(1);
        due.is("rest in the next one", x.of(0, Firms.NOW), 97);
    }

    private static void restToTheFullStrength() {
        due.says("To rest is to have REST more strength, but the full one at most");
        int[] tires = {4, 5, 6, 0};
        int[] then = {100, 100, 99, 100};
        for (int n = 0; n < tires.length; n++) {
            PianoCrews free = Firms.carrying(100, 50, 1);
            free.set(Firms.TIRE, tires[n]);
            free.pass(2);
            due.is("free, " + tires[n] + " less", free.of(0, Firms.NOW), then[n]);
            PianoCrews delayed = Firms.carrying(100, 50, 2);
            delayed.set(Firms.TIRE, tires[n]);
            delayed.pass(1);
            delayed.delay(0, 1);
            delayed.pass(1);
            due.is("delayed, " + tires[n] + " less", delayed.of(0, Firms.NOW), then[n]);
            PianoCrews paused = Firms.carrying(100, 100, 2);
            paused.set(Firms.TIRE, tires[n]);
            paused.pass(2);
            due.is("paused, " + tires[n] + " less", paused.of(0, Firms.NOW), then[n]);
        }
    }

    private static void theHourIsCounted() {
        due.says("Then the hour is counted (0 at first)");
        PianoCrews x = new PianoCrews();
        due.is("at first", x.count(0), 0);
        x.pass(1);
        due.is("one", x.count(0), 1);
        x.pass(99);
        due.is("a hundred", x.count(0), 100);
    }

    private static void lateWhenDone() {
        due.says("A job is late if it is done at an hour above its deadline");
        for (int deadline = 0; deadline <= 2; deadline++) {
            PianoCrews x = Firms.with(100);
            x.job(50, 0, 2, 0, deadline);
            x.begin(0, 1, NONE);
            x.pass(2);
            due.is("done in the hour 1, deadline " + deadline, x.ofJob(0, Firms.LATE), deadline == 0 ? 1 : 0);
            x.pass(50);
            due.is("much later, deadline " + deadline, x.ofJob(0, Firms.LATE), deadline == 0 ? 1 : 0);
            due.is("as a set", x.count(7), deadline == 0 ? 1 : 0);
        }
    }

    private static void lateWhileItIsNotDone() {
        due.says("or as it is not done while the hours so far are above its deadline");
        PianoCrews x = Firms.with(100);
        x.job(50, 0, 9, 0, 2);
        x.job(50, 0, 9, 0, 2);
        x.job(50, 0, 9, 0, 0);
        x.begin(1, 1, NONE);
        due.is("the deadline 0 in the hour 0", x.count(7), 0);
        x.pass(1);
        due.is("the deadline 0 in the hour 1", x.count(7), 0b100);
        x.pass(1);
        due.is("as many hours as the deadline: waits", x.ofJob(0, Firms.LATE), 0);
        due.is("as many hours as the deadline: being done", x.ofJob(1, Firms.LATE), 0);
        x.pass(1);
        due.is("one more: waits", x.ofJob(0, Firms.LATE), 1);
        due.is("one more: being done", x.ofJob(1, Firms.LATE), 1);
        due.is("as a set", x.count(7), 0b111);
        PianoCrews last = new PianoCrews();
        last.job(50, 0, 9, 0, 999);
        for (int n = 0; n < 10; n++) {
            last.pass(99);
        }
        last.pass(9);
        due.is("the deadline 999 in the hour 999", last.ofJob(0, Firms.LATE), 0);
        last.pass(1);
        due.is("the deadline 999 in the hour 1000", last.ofJob(0, Firms.LATE), 1);
    }

    private static void neverLateWhenCalledOff() {
        due.says("(unless it is called off)");
        PianoCrews x = Firms.with(100);
        x.job(50, 0, 9, 0, 1);
        x.job(50, 0, 9, 0, 1);
        x.job(50, 0, 9, 0, 1);
        x.begin(1, 1, NONE);
        x.callOff(2);
        x.pass(2);
        due.is("two are late", x.count(7), 0b011);
        x.callOff(0);
        due.is("called off as it waited", x.ofJob(0, Firms.LATE), 0);
        x.callOff(1);
        due.is("called off as it was being done", x.ofJob(1, Firms.LATE), 0);
        due.is("none is late", x.count(7), 0);
    }
}
