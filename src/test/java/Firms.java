/** Firms that tests begin with, and looks at everything that can be asked of one. */
final class Firms {
    static final int NO_SUCH = -1, BAD_VALUE = -2, BAD_TEXT = -3, TOO_MANY = -4, NOT_POSSIBLE = -5, NONE = -6;
    static final int STEP = 0, REST = 1, TIRE = 2, HANDS = 3;
    static final int WEIGHT = 0, FLOOR = 1, LEFT = 2, PRIORITY = 3, DEADLINE = 4, HOW = 5, LOAD = 6, CREW = 7, KIND = 8,
        DELAY = 9, PAUSED = 10, DONE_AT = 11, LATE = 12;
    static final int FULL = 0, NOW = 1, JOB = 2, CARRIED = 3, DONE_WITH = 4, UNTIL_FULL = 5;

    private Firms() {
    }

    static PianoCrews with(int... full) {
        PianoCrews x = new PianoCrews();
        for (int strength : full) {
            x.person(strength);
        }
        return x;
    }

    /** So many people of this strength. */
    static PianoCrews of(int people, int full) {
        PianoCrews x = new PianoCrews();
        for (int n = 0; n < people; n++) {
            x.person(full);
        }
        return x;
    }

    /** A job of this weight on the floor 0, for so many hours, with much time. */
    static int job(PianoCrews x, int weight, int hours) {
        return x.job(weight, 0, hours, 0, 999);
    }

    /** One person of this strength who has begun the job 0, of this weight, for so many hours. */
    static PianoCrews carrying(int full, int weight, int hours) {
        PianoCrews x = with(full);
        job(x, weight, hours);
        x.begin(0, 1, NONE);
        return x;
    }

    /** Job 0 waits, job 1 is being done (by person 1), job 2 is done, job 3 is called off: in the hour 1. */
    static PianoCrews everyState() {
        PianoCrews x = with(100, 100, 100);
        job(x, 60, 1);
        job(x, 60, 9);
        job(x, 60, 1);
        job(x, 60, 1);
        x.begin(1, 2, NONE);
        x.begin(2, 4, NONE);
        x.callOff(3);
        x.pass(1);
        return x;
    }

    /** In the hour 9999, after 101 calls. */
    static PianoCrews atTheLastHour() {
        PianoCrews x = new PianoCrews();
        for (int n = 0; n < 101; n++) {
            x.pass(99);
        }
        return x;
    }

    /** All answers of the calls that change nothing: some 20 for each job, 6 for each person, and 25. */
    static String look(PianoCrews x) {
        return lookAtFirm(x) + "; pad " + x.count(14) + " fault " + x.fault() + "; changes " + x.count(15);
    }

    /** Those of them that undo and restore bring back: all but the pad and the history. */
    static String lookAtFirm(PianoCrews x) {
        StringBuilder seen = new StringBuilder("counts");
        for (int what = 0; what <= 13; what++) {
            seen.append(' ').append(x.count(what));
        }
        for (int kind = 0; kind < 3; kind++) {
            seen.append("; straps ").append(x.straps(kind, 0)).append(' ').append(x.straps(kind, 1));
        }
        int people = x.count(1);
        for (int person = 0; person < people; person++) {
            seen.append("; person ").append(person).append(':');
            for (int what = 0; what <= 5; what++) {
                seen.append(' ').append(x.of(person, what));
            }
        }
        int jobs = x.count(3);
        for (int job = 0; job < jobs; job++) {
            lookAtJob(x, job, seen);
        }
        return seen.append("; assigned ").append(x.ifAssigned()).toString();
    }

    private static void lookAtJob(PianoCrews x, int job, StringBuilder seen) {
        seen.append("; job ").append(job).append(':');
        for (int what = 0; what <= 12; what++) {
            seen.append(' ').append(x.ofJob(job, what));
        }
        seen.append(" crews");
        for (int kind = -1; kind < 3; kind++) {
            seen.append(' ').append(x.crew(job, kind < 0 ? NONE : kind));
        }
        seen.append(" straps ").append(x.bestStraps(job)).append(" in ").append(x.doneIn(job));
        seen.append(" rank ").append(x.waiting(job));
    }
}
