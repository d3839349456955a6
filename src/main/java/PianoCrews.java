/**
 * Piano delivery crews: people who tire and rest, jobs that wait for a crew, straps that make a
 * load lighter. What each method promises stands in ../shared/DOC.md, under "Promise n".
 */
public final class PianoCrews {
    public static final int NO_SUCH = -1, BAD_VALUE = -2, BAD_TEXT = -3, TOO_MANY = -4, NOT_POSSIBLE = -5, NONE = -6;
    public static final int STEP = 0, REST = 1, TIRE = 2, HANDS = 3;

    private static final int MOST_PEOPLE = 10, MOST_JOBS = 16, MOST_STRAPS = 9, MOST_DELAY = 60, MOST_HOURS = 9999;
    private static final int KINDS = 3, GROUND_KIND = 2, WITHOUT_STRAPS = 3;
    private static final int WAITS = 0, BEING_DONE = 1, DONE = 2, CALLED_OFF = 3;
    private static final int MOST_UNDONE = 6, SLOTS = 2, FORESEEN_HOURS = 500;
    private static final int PAD_LENGTH = 80, PUT_LENGTH = 8, LOWEST_SIGN = 33, HIGHEST_SIGN = 126, NO_SIGN = 0;
    private static final int MOST_NUMBERS = 5, NUMBER_DIGITS = 3;
    private static final String ORDER_SIGNS = "wjgdxan";

    private static final int[] LOWEST_SETTING = {0, 1, 0, 1};
    private static final int[] HIGHEST_SETTING = {50, 20, 20, 6};
    private static final int[] LIGHTER_BY = {5, 10, 20};

    private final Firm firm = new Firm();
    private final Firm trial = new Firm();
    private final Firm[] slots = new Firm[SLOTS];
    private final boolean[] saved = new boolean[SLOTS];
    private final History history = new History();
    private final Pad pad = new Pad();

    public PianoCrews() {
        for (int slot = 0; slot < SLOTS; slot++) {
            slots[slot] = new Firm();
        }
    }

    // ---- changes: each one notes the state before it, and keeps the note unless it fails

    public int set(int setting, int value) {
        history.note(firm);
        return history.keepUnlessError(firm.changeSetting(setting, value));
    }

    public int person(int full) {
        history.note(firm);
        return history.keepUnlessError(firm.addPerson(full));
    }

    public int buy(int kind) {
        history.note(firm);
        return history.keepUnlessError(firm.addStraps(kind));
    }

    public int job(int weight, int floor, int hours, int priority, int deadline) {
        history.note(firm);
        return history.keepUnlessError(firm.addJob(weight, floor, hours, priority, deadline));
    }

    public int begin(int job, int crew, int straps) {
        history.note(firm);
        return history.keepUnlessError(firm.beginJob(job, crew, straps));
    }

    public int assign() {
        history.note(firm);
        return history.keepUnlessError(firm.assignJobs());
    }

    public int delay(int job, int hours) {
        history.note(firm);
        return history.keepUnlessError(firm.delayJob(job, hours));
    }

    public int callOff(int job) {
        history.note(firm);
        return history.keepUnlessError(firm.callOffJob(job));
    }

    public int pass(int hours) {
        history.note(firm);
        return history.keepUnlessError(firm.passHours(hours));
    }

    // ---- what there is

    public int of(int person, int what) {
        if (!firm.hasPerson(person)) {
            return NO_SUCH;
        }
        return firm.people[person].tell(what, firm.settings[REST]);
    }

    public int ofJob(int job, int what) {
        if (!firm.hasJob(job)) {
            return NO_SUCH;
        }
        return firm.tellOfJob(firm.jobs[job], what);
    }

    public int waiting(int rank) {
        return firm.waitingAt(rank);
    }

    public int straps(int kind, int what) {
        if (!isKind(kind)) {
            return NO_SUCH;
        }
        switch (what) {
            case 0: return firm.owned[kind];
            case 1: return firm.free[kind];
            default: return BAD_VALUE;
        }
    }

    public int count(int what) {
        switch (what) {
            case 14: return pad.length;
            case 15: return history.count;
            default: return firm.tellCount(what);
        }
    }

    // ---- what if: nothing changes

    public int why(int job, int crew, int straps) {
        return firm.whyNot(job, crew, straps);
    }

    public int crew(int job, int straps) {
        if (!firm.hasJob(job)) {
            return NO_SUCH;
        }
        if (!isKindOrNone(straps)) {
            return BAD_VALUE;
        }
        if (firm.jobs[job].state != WAITS) {
            return NOT_POSSIBLE;
        }
        return firm.crewByItself(firm.jobs[job], straps);
    }

    public int bestStraps(int job) {
        if (!firm.hasJob(job)) {
            return NO_SUCH;
        }
        if (firm.jobs[job].state != WAITS) {
            return NOT_POSSIBLE;
        }
        return firm.fewestPeopleStraps(firm.jobs[job]);
    }

    public int doneIn(int job) {
        if (!firm.hasJob(job)) {
            return NO_SUCH;
        }
        if (firm.jobs[job].state != BEING_DONE) {
            return NOT_POSSIBLE;
        }
        trial.copyFrom(firm);
        // Nobody else can come to this job or leave it, so its own hours are enough.
        for (int hours = 1; hours <= FORESEEN_HOURS; hours++) {
            if (trial.workOneHour(trial.jobs[job])) {
                return hours;
            }
        }
        return NONE;
    }

    public int ifAssigned() {
        trial.copyFrom(firm);
        return trial.assignJobs();
    }

    // ---- texts

    public int put(long characters) {
        return pad.append(characters);
    }

    public int wipe() {
        return pad.empty();
    }

    public int fault() {
        return pad.findFault();
    }

    public int carryOut() {
        if (pad.findFault() != NONE) {
            return BAD_TEXT;
        }
        history.note(firm);
        pad.startReading();
        int orders = 0;
        while (orders <= PAD_LENGTH && pad.readOrder() && obeyOrder() >= 0) {
            orders++;
            pad.skip(';');
        }
        pad.empty();
        return history.keepUnlessError(orders);
    }

    private int obeyOrder() {
        int first = pad.number(0);
        switch (pad.orderSign) {
            case 'w': return firm.addPerson(first);
            case 'j': return firm.addJob(first, pad.number(1), pad.number(2), pad.number(3), pad.number(4));
            case 'g': return firm.beginJob(first, pad.crew, pad.kind);
            case 'd': return firm.delayJob(first, pad.number(1));
            case 'x': return firm.callOffJob(first);
            case 'a': return firm.assignJobs();
            case 'n': return firm.passHours(first);
            default: return BAD_TEXT;
        }
    }

    // ---- undo, saving

    public int undo() {
        return history.takeBack(firm);
    }

    public int save(int slot) {
        if (!isSlot(slot)) {
            return BAD_VALUE;
        }
        slots[slot].copyFrom(firm);
        saved[slot] = true;
        return firm.jobCount;
    }

    public int restore(int slot) {
        if (!isSlot(slot)) {
            return BAD_VALUE;
        }
        if (!saved[slot]) {
            return NOT_POSSIBLE;
        }
        history.note(firm);
        firm.copyFrom(slots[slot]);
        return history.keepUnlessError(firm.jobCount);
    }

    private static boolean isSlot(int slot) {
        return isWithin(slot, 0, SLOTS - 1);
    }

    private static boolean isKind(int kind) {
        return kind >= 0 && kind < KINDS;
    }

    private static boolean isKindOrNone(int kind) {
        return kind == NONE || isKind(kind);
    }

    private static boolean isWithin(int value, int lowest, int highest) {
        return value >= lowest && value <= highest;
    }

    private static boolean isIn(int number, int set) {
        return (set & (1 << number)) != 0;
    }

    /** Somebody who carries. Rows are made once and used again, so come() sets every field. */
    private static final class Person {
        int full;
        int strength;
        int job;
        int hoursCarried;
        int jobsDone;

        void come(int fullStrength) {
            full = fullStrength;
            strength = fullStrength;
            job = NONE;
            hoursCarried = 0;
            jobsDone = 0;
        }

        void copyFrom(Person other) {
            full = other.full;
            strength = other.strength;
            job = other.job;
            hoursCarried = other.hoursCarried;
            jobsDone = other.jobsDone;
        }

        void rest(int gain) {
            strength = Math.min(full, strength + gain);
        }

        void carry(int loss) {
            strength = Math.max(0, strength - loss);
            hoursCarried++;
        }

        int tell(int what, int gain) {
            switch (what) {
                case 0: return full;
                case 1: return strength;
                case 2: return job;
                case 3: return hoursCarried;
                case 4: return jobsDone;
                case 5: return hoursOfRest(gain);
                default: return BAD_VALUE;
            }
        }

        private int hoursOfRest(int gain) {
            int divisor = Math.max(1, gain);
            return (full - strength + divisor - 1) / divisor;
        }
    }

    /** A job. Rows are made once and used again, so come() sets every field. */
    private static final class Job {
        int weight;
        int floor;
        int hoursLeft;
        int priority;
        int deadline;
        int state;
        int load;
        int crew;
        int kind;
        int delay;
        int hoursPaused;
        int doneAt;

        void come(int itsWeight, int itsFloor, int hours, int itsPriority, int itsDeadline) {
            weight = itsWeight;
            floor = itsFloor;
            hoursLeft = hours;
            priority = itsPriority;
            deadline = itsDeadline;
            state = WAITS;
            load = 0;
            crew = 0;
            kind = NONE;
            delay = 0;
            hoursPaused = 0;
            doneAt = NONE;
        }

        void copyFrom(Job other) {
            weight = other.weight;
            floor = other.floor;
            hoursLeft = other.hoursLeft;
            priority = other.priority;
            deadline = other.deadline;
            state = other.state;
            load = other.load;
            crew = other.crew;
            kind = other.kind;
            delay = other.delay;
            hoursPaused = other.hoursPaused;
            doneAt = other.doneAt;
        }

        boolean wasBegun() {
            return crew != 0;
        }

        boolean isLate(int hoursSoFar) {
            switch (state) {
                case DONE: return doneAt > deadline;
                case CALLED_OFF: return false;
                default: return hoursSoFar > deadline;
            }
        }

        /** Whether this job comes ahead of one that has a higher number, by priority and deadline. */
        boolean isAheadOfLater(Job later) {
            return priority != later.priority ? priority > later.priority : deadline <= later.deadline;
        }
    }

    /** Everything that undo and the slots bring back. */
    private static final class Firm {
        final int[] settings = {10, 5, 4, 4};
        final int[] owned = {2, 2, 2};
        final int[] free = {2, 2, 2};
        final Person[] people = new Person[MOST_PEOPLE];
        final Job[] jobs = new Job[MOST_JOBS];
        int personCount;
        int jobCount;
        int hoursSoFar;
        int hoursCarried;
        int hoursPaused;

        Firm() {
            for (int person = 0; person < MOST_PEOPLE; person++) {
                people[person] = new Person();
            }
            for (int job = 0; job < MOST_JOBS; job++) {
                jobs[job] = new Job();
            }
        }

        void copyFrom(Firm other) {
            System.arraycopy(other.settings, 0, settings, 0, settings.length);
            System.arraycopy(other.owned, 0, owned, 0, KINDS);
            System.arraycopy(other.free, 0, free, 0, KINDS);
            personCount = other.personCount;
            jobCount = other.jobCount;
            hoursSoFar = other.hoursSoFar;
            hoursCarried = other.hoursCarried;
            hoursPaused = other.hoursPaused;
            for (int person = 0; person < personCount; person++) {
                people[person].copyFrom(other.people[person]);
            }
            for (int job = 0; job < jobCount; job++) {
                jobs[job].copyFrom(other.jobs[job]);
            }
        }

        boolean hasPerson(int person) {
            return person >= 0 && person < personCount;
        }

        boolean hasJob(int job) {
            return job >= 0 && job < jobCount;
        }

        // -- what comes

        int changeSetting(int setting, int value) {
            if (!isWithin(setting, 0, settings.length - 1)
                    || !isWithin(value, LOWEST_SETTING[setting], HIGHEST_SETTING[setting])) {
                return BAD_VALUE;
            }
            int previous = settings[setting];
            settings[setting] = value;
            return previous;
        }

        int addPerson(int full) {
            if (!isWithin(full, 10, 150)) {
                return BAD_VALUE;
            }
            if (personCount >= MOST_PEOPLE) {
                return TOO_MANY;
            }
            people[personCount].come(full);
            personCount++;
            return personCount - 1;
        }

        int addStraps(int kind) {
            if (!isKind(kind)) {
                return NO_SUCH;
            }
            if (owned[kind] >= MOST_STRAPS) {
                return TOO_MANY;
            }
            owned[kind]++;
            free[kind]++;
            return owned[kind];
        }

        int addJob(int weight, int floor, int hours, int priority, int deadline) {
            if (!isWithin(weight, 50, 600) || !isWithin(floor, 0, 9) || !isWithin(hours, 1, 9)
                    || !isWithin(priority, 0, 3) || !isWithin(deadline, 0, 999)) {
                return BAD_VALUE;
            }
            if (jobCount >= MOST_JOBS) {
                return TOO_MANY;
            }
            jobs[jobCount].come(weight, floor, hours, priority, deadline);
            jobCount++;
            return jobCount - 1;
        }

        // -- loads and crews

        int loadNow(Job job) {
            return job.weight * (100 + settings[STEP] * job.floor) / 100;
        }

        int loadWith(Job job, int kind) {
            int lighter = isKind(kind) ? LIGHTER_BY[kind] : 0;
            return loadNow(job) * (100 - lighter) / 100;
        }

        boolean canHaveStraps(Job job, int kind) {
            if (!isKind(kind)) {
                return true;
            }
            return free[kind] > 0 && (kind != GROUND_KIND || job.floor == 0);
        }

        int busyPeople() {
            int busy = 0;
            for (int person = 0; person < personCount; person++) {
                if (people[person].job != NONE) {
                    busy |= 1 << person;
                }
            }
            return busy;
        }

        int strengthOf(int crew) {
            int together = 0;
            for (int person = 0; person < personCount; person++) {
                if (isIn(person, crew)) {
                    together += people[person].strength;
                }
            }
            return together;
        }

        private boolean isCrew(int crew) {
            int everybody = (1 << personCount) - 1;
            return crew != 0 && (crew & ~everybody) == 0 && Integer.bitCount(crew) <= settings[HANDS];
        }

        int whyNot(int job, int crew, int kind) {
            if (!hasJob(job)) {
                return NO_SUCH;
            }
            if (!isKindOrNone(kind)) {
                return BAD_VALUE;
            }
            if (jobs[job].state != WAITS) {
                return 1;
            }
            if (!isCrew(crew)) {
                return 2;
            }
            if ((crew & busyPeople()) != 0) {
                return 3;
            }
            if (!canHaveStraps(jobs[job], kind)) {
                return 4;
            }
            return strengthOf(crew) < loadWith(jobs[job], kind) ? 5 : 0;
        }

        private int strongestOutside(int set) {
            int strongest = NONE;
            int most = -1;
            for (int person = 0; person < personCount; person++) {
                if (!isIn(person, set) && people[person].strength > most) {
                    strongest = person;
                    most = people[person].strength;
                }
            }
            return strongest;
        }

        int crewByItself(Job job, int kind) {
            if (!canHaveStraps(job, kind)) {
                return NONE;
            }
            int load = loadWith(job, kind);
            int busy = busyPeople();
            int crew = 0;
            int together = 0;
            for (int taken = 0; taken < settings[HANDS]; taken++) {
                int next = strongestOutside(busy | crew);
                if (!hasPerson(next)) {
                    return NONE;
                }
                crew |= 1 << next;
                together += people[next].strength;
                if (together >= load) {
                    return crew;
                }
            }
            return NONE;
        }

        /** The straps as bestStraps() tells them: a kind, WITHOUT_STRAPS, or NONE if there is no crew. */
        int fewestPeopleStraps(Job job) {
            int best = NONE;
            int fewest = MOST_PEOPLE + 1;
            int crew = crewByItself(job, NONE);
            if (crew != NONE) {
                best = WITHOUT_STRAPS;
                fewest = Integer.bitCount(crew);
            }
            for (int kind = 0; kind < KINDS; kind++) {
                crew = crewByItself(job, kind);
                if (crew != NONE && Integer.bitCount(crew) < fewest) {
                    best = kind;
                    fewest = Integer.bitCount(crew);
                }
            }
            return best;
        }

        // -- beginning

        int beginJob(int job, int crew, int kind) {
            int reason = whyNot(job, crew, kind);
            if (reason != 0) {
                return reason < 0 ? reason : NOT_POSSIBLE;
            }
            Job begun = jobs[job];
            begun.load = loadWith(begun, kind);
            begun.state = BEING_DONE;
            begun.crew = crew;
            begun.kind = kind;
            if (isKind(kind)) {
                free[kind]--;
            }
            placeCrew(crew, job);
            return begun.load;
        }

        private void placeCrew(int crew, int job) {
            for (int person = 0; person < personCount; person++) {
                if (isIn(person, crew)) {
                    people[person].job = job;
                }
            }
        }

        int assignJobs() {
            int begun = 0;
            int job = nextWaiting(NO_SUCH);
            for (int steps = 0; steps < MOST_JOBS && hasJob(job); steps++) {
                int best = fewestPeopleStraps(jobs[job]);
                int kind = isKind(best) ? best : NONE;
                if (best != NONE && beginJob(job, crewByItself(jobs[job], kind), kind) >= 0) {
                    begun |= 1 << job;
                }
                job = nextWaiting(job);
            }
            return begun;
        }

        // -- the order of those that wait

        private boolean isAhead(int one, int other) {
            return one < other ? jobs[one].isAheadOfLater(jobs[other]) : !jobs[other].isAheadOfLater(jobs[one]);
        }

        /** The first job that waits and comes behind the previous one (which need not wait any more). */
        private int nextWaiting(int previous) {
            int next = NO_SUCH;
            for (int job = 0; job < jobCount; job++) {
                boolean behind = !hasJob(previous) || (job != previous && isAhead(previous, job));
                if (jobs[job].state == WAITS && behind && (!hasJob(next) || isAhead(job, next))) {
                    next = job;
                }
            }
            return next;
        }

        int waitingAt(int rank) {
            if (!hasJob(rank)) {
                return NO_SUCH;
            }
            int job = nextWaiting(NO_SUCH);
            for (int passed = 0; passed < rank && hasJob(job); passed++) {
                job = nextWaiting(job);
            }
            return job;
        }

        // -- delays and calling off

        int delayJob(int job, int hours) {
            if (!hasJob(job)) {
                return NO_SUCH;
            }
            if (!isWithin(hours, 1, 20)) {
                return BAD_VALUE;
            }
            if (jobs[job].state != BEING_DONE || jobs[job].delay + hours > MOST_DELAY) {
                return NOT_POSSIBLE;
            }
            jobs[job].delay += hours;
            return jobs[job].delay;
        }

        int callOffJob(int job) {
            if (!hasJob(job)) {
                return NO_SUCH;
            }
            Job called = jobs[job];
            if (called.state != WAITS && called.state != BEING_DONE) {
                return NOT_POSSIBLE;
            }
            endJob(called, CALLED_OFF);
            return called.crew;
        }

        private void endJob(Job job, int state) {
            if (job.state == BEING_DONE) {
                placeCrew(job.crew, NONE);
                if (isKind(job.kind)) {
                    free[job.kind]++;
                }
            }
            job.state = state;
        }

        // -- hours

        int passHours(int hours) {
            if (!isWithin(hours, 1, 99)) {
                return BAD_VALUE;
            }
            if (hoursSoFar + hours > MOST_HOURS) {
                return NOT_POSSIBLE;
            }
            int done = 0;
            for (int hour = 0; hour < hours; hour++) {
                done += passOneHour();
            }
            return done;
        }

        private int passOneHour() {
            int done = 0;
            // Who gets free in this hour has carried in it and does not rest, too.
            int busy = busyPeople();
            for (int job = 0; job < jobCount; job++) {
                if (jobs[job].state == BEING_DONE && workOneHour(jobs[job])) {
                    done++;
                }
            }
            restPeople(~busy);
            hoursSoFar++;
            return done;
        }

        /** Returns whether the job is done with this hour. */
        boolean workOneHour(Job job) {
            if (job.delay > 0) {
                job.delay--;
                restPeople(job.crew);
                return false;
            }
            if (strengthOf(job.crew) < job.load) {
                job.hoursPaused++;
                hoursPaused++;
                restPeople(job.crew);
                return false;
            }
            job.hoursLeft--;
            hoursCarried++;
            boolean last = job.hoursLeft <= 0;
            carryHour(job.crew, last);
            if (last) {
                job.doneAt = hoursSoFar;
                endJob(job, DONE);
            }
            return last;
        }

        private void restPeople(int set) {
            for (int person = 0; person < personCount; person++) {
                if (isIn(person, set)) {
                    people[person].rest(settings[REST]);
                }
            }
        }

        private void carryHour(int crew, boolean last) {
            for (int person = 0; person < personCount; person++) {
                if (isIn(person, crew)) {
                    people[person].carry(settings[TIRE]);
                    people[person].jobsDone += last ? 1 : 0;
                }
            }
        }

        // -- what there is

        int tellOfJob(Job job, int what) {
            switch (what) {
                case 0: return job.weight;
                case 1: return job.floor;
                case 2: return job.hoursLeft;
                case 3: return job.priority;
                case 4: return job.deadline;
                case 5: return job.state;
                case 6: return job.wasBegun() ? job.load : loadNow(job);
                case 7: return job.crew;
                case 8: return job.kind;
                case 9: return job.delay;
                case 10: return job.hoursPaused;
                case 11: return job.doneAt;
                case 12: return job.isLate(hoursSoFar) ? 1 : 0;
                default: return BAD_VALUE;
            }
        }

        int tellCount(int what) {
            switch (what) {
                case 0: return hoursSoFar;
                case 1: return personCount;
                case 2: return busyPeople();
                case 3: return jobCount;
                case 4: return jobsInState(WAITS);
                case 5: return jobsInState(BEING_DONE);
                case 6: return jobsInState(DONE);
                case 7: return lateJobs();
                case 8: return hoursCarried;
                case 9: return hoursPaused;
                case 10: return settings[STEP];
                case 11: return settings[REST];
                case 12: return settings[TIRE];
                case 13: return settings[HANDS];
                default: return BAD_VALUE;
            }
        }

        private int jobsInState(int state) {
            int set = 0;
            for (int job = 0; job < jobCount; job++) {
                if (jobs[job].state == state) {
                    set |= 1 << job;
                }
            }
            return set;
        }

        private int lateJobs() {
            int set = 0;
            for (int job = 0; job < jobCount; job++) {
                if (jobs[job].isLate(hoursSoFar)) {
                    set |= 1 << job;
                }
            }
            return set;
        }
    }

    /**
     * The states before the latest changes, in a ring. It has one row more than states are kept, so
     * that a state can be noted before it is known whether the change succeeds.
     */
    private static final class History {
        private static final int ROWS = MOST_UNDONE + 1;

        private final Firm[] states = new Firm[ROWS];
        private int oldest;
        int count;

        History() {
            for (int row = 0; row < ROWS; row++) {
                states[row] = new Firm();
            }
        }

        void note(Firm firm) {
            states[row(count)].copyFrom(firm);
        }

        int keepUnlessError(int answer) {
            if (answer < 0) {
                return answer;
            }
            if (count < MOST_UNDONE) {
                count++;
            } else {
                oldest = row(1);
            }
            return answer;
        }

        int takeBack(Firm firm) {
            if (count <= 0) {
                return NOT_POSSIBLE;
            }
            count--;
            firm.copyFrom(states[row(count)]);
            return count;
        }

        /** Where in the ring a state stands, by its place behind the oldest one. */
        private int row(int place) {
            return Math.floorMod(oldest + place, ROWS);
        }
    }

    /**
     * The text that put() makes longer, and its reading, order by order: where the reading cannot go
     * on, it stands at the fault.
     */
    private static final class Pad {
        private final int[] signs = new int[PAD_LENGTH];
        private final int[] numbers = new int[MOST_NUMBERS];
        private int numbersRead;
        private int at;
        int length;
        int orderSign;
        int crew;
        int kind;

        // -- writing

        int append(long characters) {
            int more = signsIn(characters);
            if (more <= 0) {
                return BAD_VALUE;
            }
            if (length + more > PAD_LENGTH) {
                return TOO_MANY;
            }
            for (int sign = 0; sign < more; sign++) {
                signs[length + sign] = signOf(characters, more - 1 - sign);
            }
            length += more;
            return length;
        }

        /** How many characters the number holds, 0 if it is not as put() wants it. */
        private static int signsIn(long characters) {
            int found = 0;
            while (found < PUT_LENGTH && signOf(characters, found) != NO_SIGN) {
                if (!isWithin(signOf(characters, found), LOWEST_SIGN, HIGHEST_SIGN)) {
                    return 0;
                }
                found++;
            }
            // Java shifts by 64 as if by 0, so the full number is told apart first.
            boolean nothingAbove = found == PUT_LENGTH || (characters >>> (8 * found)) == 0;
            return nothingAbove ? found : 0;
        }

        private static int signOf(long characters, int fromLast) {
            return (int) (characters >>> (8 * fromLast)) & 255;
        }

        int empty() {
            int had = length;
            length = 0;
            return had;
        }

        // -- reading

        void startReading() {
            at = 0;
        }

        int number(int index) {
            return index >= 0 && index < numbersRead ? numbers[index] : 0;
        }

        int findFault() {
            startReading();
            for (int orders = 0; orders <= PAD_LENGTH; orders++) {
                if (!readOrder()) {
                    return at;
                }
                if (at >= length) {
                    return NONE;
                }
                if (!skip(';')) {
                    return at;
                }
            }
            return at;
        }

        boolean readOrder() {
            numbersRead = 0;
            crew = 0;
            kind = NONE;
            orderSign = signHere();
            if (ORDER_SIGNS.indexOf((char) orderSign) < 0) {
                return false;
            }
            at++;
            return readForm(formOf(orderSign)) && (orderSign != 'g' || readCrew());
        }

        boolean skip(int sign) {
            if (signHere() != sign) {
                return false;
            }
            at++;
            return true;
        }

        private int signHere() {
            return at >= 0 && at < length ? signs[at] : NO_SIGN;
        }

        /** What follows the order's sign: N is a number, D a digit, anything else stands for itself. */
        private static String formOf(int sign) {
            switch (sign) {
                case 'a': return "";
                case 'd': return "N+N";
                case 'g': return "N:";
                case 'j': return "N,D,D,D,N";
                default: return "N";
            }
        }

        private boolean readForm(String form) {
            boolean read = true;
            for (int index = 0; index < form.length() && read; index++) {
                int part = form.charAt(index);
                switch (part) {
                    case 'N': read = readNumber(NUMBER_DIGITS); break;
                    case 'D': read = readNumber(1); break;
                    default: read = skip(part);
                }
            }
            return read;
        }

        private boolean readNumber(int mostDigits) {
            if (!isDigitHere()) {
                return false;
            }
            int value = takeDigit();
            // A number that begins with 0 is 0, and ends there.
            for (int digits = 1; digits < mostDigits && value > 0 && isDigitHere(); digits++) {
                value = 10 * value + takeDigit();
            }
            if (numbersRead < MOST_NUMBERS) {
                numbers[numbersRead] = value;
                numbersRead++;
            }
            return true;
        }

        private boolean readCrew() {
            if (!isDigitHere()) {
                return false;
            }
            for (int told = 0; told < PAD_LENGTH && isDigitHere(); told++) {
                crew |= 1 << takeDigit();
            }
            if (!skip('+')) {
                return true;
            }
            if (!isDigitHere()) {
                return false;
            }
            kind = takeDigit();
            return true;
        }

        private boolean isDigitHere() {
            return isWithin(signHere(), '0', '9');
        }

        private int takeDigit() {
            int digit = signHere() - '0';
            at++;
            return digit;
        }
    }
}
