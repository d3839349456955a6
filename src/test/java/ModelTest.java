import java.util.ArrayList;
import java.util.Arrays;
import java.util.Comparator;
import java.util.List;
import java.util.Random;
import java.util.regex.Matcher;
import java.util.regex.Pattern;

/** Random runs: each call's answer, and all that can be asked at the end, against a second model. */
public final class ModelTest {
    private static final int NO_SUCH = -1, BAD_VALUE = -2, BAD_TEXT = -3, TOO_MANY = -4, NOT_POSSIBLE = -5, NONE = -6;
    /** Nothing is promised after an object's 512th call, and to ask for everything takes most of them. */
    private static final int CHANGING_CALLS = 105;
    private static final Due due = new Due();

    private static final class Human {
        int full, now, job = NONE, carried, done;

        Human twin() {
            Human h = new Human();
            h.full = full;
            h.now = now;
            h.job = job;
            h.carried = carried;
            h.done = done;
            return h;
        }
    }

    private static final class Piano {
        int number, weight, floor, left, priority, deadline, how, load, kind = NONE, delay, paused, doneAt = NONE;
        boolean begun;
        List<Integer> crew = new ArrayList<>();

        Piano twin() {
            Piano p = new Piano();
            p.number = number;
            p.weight = weight;
            p.floor = floor;
            p.left = left;
            p.priority = priority;
            p.deadline = deadline;
            p.how = how;
            p.load = load;
            p.kind = kind;
            p.delay = delay;
            p.paused = paused;
            p.doneAt = doneAt;
            p.begun = begun;
            p.crew = new ArrayList<>(crew);
            return p;
        }
    }

    private static final class World {
        int[] settings = {10, 5, 4, 4};
        int[] all = {2, 2, 2};
        List<Human> humans = new ArrayList<>();
        List<Piano> pianos = new ArrayList<>();
        int hour, carried, paused;

        World twin() {
            World w = new World();
            w.settings = settings.clone();
            w.all = all.clone();
            humans.forEach(h -> w.humans.add(h.twin()));
            pianos.forEach(p -> w.pianos.add(p.twin()));
            w.hour = hour;
            w.carried = carried;
            w.paused = paused;
            return w;
        }

        int free(int kind) {
            return all[kind] - (int) pianos.stream().filter(p -> p.how == 1 && p.kind == kind).count();
        }

        int load(Piano p, int kind) {
            int load = (p.weight * (100 + settings[0] * p.floor)) / 100;
            int less = kind == 0 ? 5 : kind == 1 ? 10 : kind == 2 ? 20 : 0;
            return load * (100 - less) / 100;
        }

        boolean strapsRefused(Piano p, int kind) {
            return kind != NONE && (free(kind) <= 0 || (kind == 2 && p.floor > 0));
        }

        int set(int setting, int value) {
            int[][] ranges = {{0, 50}, {1, 20}, {0, 20}, {1, 6}};
            if (setting < 0 || setting > 3 || value < ranges[setting][0] || value > ranges[setting][1]) {
                return BAD_VALUE;
            }
            int was = settings[setting];
            settings[setting] = value;
            return was;
        }

        int person(int full) {
            if (full < 10 || full > 150) {
                return BAD_VALUE;
            }
            if (humans.size() == 10) {
                return TOO_MANY;
            }
            Human h = new Human();
            h.full = full;
            h.now = full;
            humans.add(h);
            return humans.size() - 1;
        }

        int buy(int kind) {
            return kind < 0 || kind > 2 ? NO_SUCH : all[kind] == 9 ? TOO_MANY : ++all[kind];
        }

        int job(int weight, int floor, int hours, int priority, int deadline) {
            if (weight < 50 || weight > 600 || floor < 0 || floor > 9 || hours < 1 || hours > 9
                    || priority < 0 || priority > 3 || deadline < 0 || deadline > 999) {
                return BAD_VALUE;
            }
            if (pianos.size() == 16) {
                return TOO_MANY;
            }
            Piano p = new Piano();
            p.number = pianos.size();
            p.weight = weight;
            p.floor = floor;
            p.left = hours;
            p.priority = priority;
            p.deadline = deadline;
            pianos.add(p);
            return p.number;
        }

        boolean noJob(int job) {
            return job < 0 || job >= pianos.size();
        }

        int why(int job, int crew, int kind) {
            if (noJob(job)) {
                return NO_SUCH;
            }
            if (kind != NONE && (kind < 0 || kind > 2)) {
                return BAD_VALUE;
            }
            Piano p = pianos.get(job);
            if (p.how != 0) {
                return 1;
            }
            List<Integer> members = members(crew);
            if (members.isEmpty() || members.size() > settings[3] || members.get(members.size() - 1) >= humans.size()) {
                return 2;
            }
            if (members.stream().anyMatch(m -> humans.get(m).job != NONE)) {
                return 3;
            }
            if (strapsRefused(p, kind)) {
                return 4;
            }
            return members.stream().mapToInt(m -> humans.get(m).now).sum() < load(p, kind) ? 5 : 0;
        }

        int begin(int job, int crew, int kind) {
            int why = why(job, crew, kind);
            if (why != 0) {
                return why < 0 ? why : NOT_POSSIBLE;
            }
            Piano p = pianos.get(job);
            p.load = load(p, kind);
            p.how = 1;
            p.begun = true;
            p.kind = kind;
            p.crew = members(crew);
            p.crew.forEach(m -> humans.get(m).job = job);
            return p.load;
        }

        int crewFor(Piano p, int kind) {
            if (strapsRefused(p, kind)) {
                return NONE;
            }
            List<Integer> free = new ArrayList<>();
            for (int h = 0; h < humans.size(); h++) {
                if (humans.get(h).job == NONE) {
                    free.add(h);
                }
            }
            free.sort(Comparator.comparingInt((Integer h) -> -humans.get(h).now).thenComparingInt(h -> h));
            int set = 0;
            int sum = 0;
            int taken = 0;
            for (int h : free) {
                set |= 1 << h;
                sum += humans.get(h).now;
                taken++;
                if (sum >= load(p, kind)) {
                    return taken > settings[3] ? NONE : set;
                }
            }
            return NONE;
        }

        int best(Piano p) {
            int best = NONE;
            for (int kind : new int[] {NONE, 0, 1, 2}) {
                int crew = crewFor(p, kind);
                int told = kind == NONE ? 3 : kind;
                int before = best == NONE ? 99 : Integer.bitCount(crewFor(p, best == 3 ? NONE : best));
                if (crew != NONE && Integer.bitCount(crew) < before) {
                    best = told;
                }
            }
            return best;
        }

        List<Piano> order() {
            List<Piano> order = new ArrayList<>(pianos.stream().filter(p -> p.how == 0).toList());
            order.sort(Comparator.comparingInt((Piano p) -> -p.priority).thenComparingInt(p -> p.deadline)
                    .thenComparingInt(p -> p.number));
            return order;
        }

        int assign() {
            int begun = 0;
            for (Piano p : order()) {
                int best = best(p);
                if (best != NONE) {
                    int kind = best == 3 ? NONE : best;
                    begin(p.number, crewFor(p, kind), kind);
                    begun |= 1 << p.number;
                }
            }
            return begun;
        }

        int delay(int job, int hours) {
            if (noJob(job)) {
                return NO_SUCH;
            }
            if (hours < 1 || hours > 20) {
                return BAD_VALUE;
            }
            Piano p = pianos.get(job);
            if (p.how != 1 || p.delay + hours > 60) {
                return NOT_POSSIBLE;
            }
            p.delay += hours;
            return p.delay;
        }

        int callOff(int job) {
            if (noJob(job)) {
                return NO_SUCH;
            }
            Piano p = pianos.get(job);
            if (p.how > 1) {
                return NOT_POSSIBLE;
            }
            p.how = 3;
            p.crew.forEach(m -> humans.get(m).job = NONE);
            return asSet(p.crew);
        }

        int hour() {
            int done = 0;
            List<Human> idle = humans.stream().filter(h -> h.job == NONE).toList();
            for (Piano p : pianos) {
                if (p.how != 1) {
                    continue;
                }
                List<Human> crew = p.crew.stream().map(humans::get).toList();
                if (p.delay > 0) {
                    p.delay--;
                    crew.forEach(this::rest);
                } else if (crew.stream().mapToInt(h -> h.now).sum() < p.load) {
                    p.paused++;
                    paused++;
                    crew.forEach(this::rest);
                } else {
                    p.left--;
                    carried++;
                    for (Human h : crew) {
                        h.now = Math.max(0, h.now - settings[2]);
                        h.carried++;
                        if (p.left == 0) {
                            h.done++;
                            h.job = NONE;
                        }
                    }
                    if (p.left == 0) {
                        p.how = 2;
                        p.doneAt = hour;
                        done++;
                    }
                }
            }
            idle.forEach(this::rest);
            hour++;
            return done;
        }

        void rest(Human h) {
            h.now = Math.min(h.full, h.now + settings[1]);
        }

        int pass(int hours) {
            if (hours < 1 || hours > 99) {
                return BAD_VALUE;
            }
            if (hour + hours > 9999) {
                return NOT_POSSIBLE;
            }
            int done = 0;
            for (int h = 0; h < hours; h++) {
                done += hour();
            }
            return done;
        }

        boolean late(Piano p) {
            return p.how == 2 ? p.doneAt > p.deadline : p.how != 3 && hour > p.deadline;
        }

        int of(int person, int what) {
            if (person < 0 || person >= humans.size()) {
                return NO_SUCH;
            }
            Human h = humans.get(person);
            int rest = 0;
            while (h.now + rest * settings[1] < h.full) {
                rest++;
            }
            int[] told = {h.full, h.now, h.job, h.carried, h.done, rest};
            return what < 0 || what > 5 ? BAD_VALUE : told[what];
        }

        int ofJob(int job, int what) {
            if (noJob(job)) {
                return NO_SUCH;
            }
            Piano p = pianos.get(job);
            int[] told = {p.weight, p.floor, p.left, p.priority, p.deadline, p.how, p.begun ? p.load : load(p, NONE),
                asSet(p.crew), p.kind, p.delay, p.paused, p.doneAt, late(p) ? 1 : 0};
            return what < 0 || what > 12 ? BAD_VALUE : told[what];
        }

        int waiting(int rank) {
            List<Piano> order = order();
            return rank < 0 || rank >= order.size() ? NO_SUCH : order.get(rank).number;
        }

        int straps(int kind, int what) {
            return kind < 0 || kind > 2 ? NO_SUCH : what == 0 ? all[kind] : what == 1 ? free(kind) : BAD_VALUE;
        }

        int jobs(int how) {
            return pianos.stream().filter(p -> p.how == how).mapToInt(p -> 1 << p.number).sum();
        }

        int count(int what, int pad, int history) {
            int busy = 0;
            for (int h = 0; h < humans.size(); h++) {
                busy |= humans.get(h).job != NONE ? 1 << h : 0;
            }
            int late = pianos.stream().filter(this::late).mapToInt(p -> 1 << p.number).sum();
            int[] told = {hour, humans.size(), busy, pianos.size(), jobs(0), jobs(1), jobs(2), late, carried, paused,
                settings[0], settings[1], settings[2], settings[3], pad, history};
            return what < 0 || what > 15 ? BAD_VALUE : told[what];
        }

        int crew(int job, int kind) {
            if (noJob(job)) {
                return NO_SUCH;
            }
            if (kind != NONE && (kind < 0 || kind > 2)) {
                return BAD_VALUE;
            }
            return pianos.get(job).how != 0 ? NOT_POSSIBLE : crewFor(pianos.get(job), kind);
        }

        int bestStraps(int job) {
            return noJob(job) ? NO_SUCH : pianos.get(job).how != 0 ? NOT_POSSIBLE : best(pianos.get(job));
        }

        int doneIn(int job) {
            if (noJob(job)) {
                return NO_SUCH;
            }
            if (pianos.get(job).how != 1) {
                return NOT_POSSIBLE;
            }
            World later = twin();
            for (int h = 1; h <= 500; h++) {
                later.hour();
                if (later.pianos.get(job).how == 2) {
                    return h;
                }
            }
            return NONE;
        }
    }

    private static List<Integer> members(int set) {
        List<Integer> members = new ArrayList<>();
        for (int n = 0; n < 32; n++) {
            if ((set >>> n & 1) == 1) {
                members.add(n);
            }
        }
        return members;
    }

    private static int asSet(List<Integer> members) {
        return members.stream().mapToInt(m -> 1 << m).sum();
    }

    private static final String N = "(?:0|[1-9]\\d{0,2})";
    private static final String ORDER = "(?:[wxn]" + N + "|j" + N + ",\\d,\\d,\\d," + N + "|g" + N + ":\\d+(?:\\+\\d)?|d"
            + N + "\\+" + N + "|a)";
    private static final Pattern TEXT = Pattern.compile(ORDER + "(?:;" + ORDER + ")*");

    /** By regular expressions: a sign can stand if the text up to it can still become one that matches. */
    private static int faultOf(String text) {
        if (TEXT.matcher(text).matches()) {
            return NONE;
        }
        for (int end = 1; end <= text.length(); end++) {
            if (!canBegin(text.substring(0, end))) {
                return end - 1;
            }
        }
        return text.length();
    }

    private static boolean canBegin(String text) {
        Matcher matcher = TEXT.matcher(text);
        return matcher.matches() || matcher.hitEnd();
    }

    private static final class Model {
        World world = new World();
        World[] slots = new World[2];
        List<World> history = new ArrayList<>();
        String pad = "";

        int changed(World before, int answer) {
            if (answer >= 0) {
                history.add(before);
                if (history.size() > 6) {
                    history.remove(0);
                }
            }
            return answer;
        }

        int undo() {
            if (history.isEmpty()) {
                return NOT_POSSIBLE;
            }
            world = history.remove(history.size() - 1);
            return history.size();
        }

        int save(int slot) {
            if (slot < 0 || slot > 1) {
                return BAD_VALUE;
            }
            slots[slot] = world.twin();
            return world.pianos.size();
        }

        int restore(int slot) {
            if (slot < 0 || slot > 1) {
                return BAD_VALUE;
            }
            if (slots[slot] == null) {
                return NOT_POSSIBLE;
            }
            World before = world;
            world = slots[slot].twin();
            return changed(before, world.pianos.size());
        }

        int put(long characters) {
            String text = "";
            long rest = characters;
            while ((rest & 255) != 0) {
                int code = (int) (rest & 255);
                if (code < 33 || code > 126) {
                    return BAD_VALUE;
                }
                text = (char) code + text;
                rest >>>= 8;
            }
            if (rest != 0 || text.isEmpty()) {
                return BAD_VALUE;
            }
            if (pad.length() + text.length() > 80) {
                return TOO_MANY;
            }
            pad += text;
            return pad.length();
        }

        int wipe() {
            int had = pad.length();
            pad = "";
            return had;
        }

        int carryOut() {
            if (faultOf(pad) != NONE) {
                return BAD_TEXT;
            }
            World before = world.twin();
            int done = 0;
            for (String order : pad.split(";")) {
                if (obey(order) < 0) {
                    break;
                }
                done++;
            }
            pad = "";
            return changed(before, done);
        }

        int obey(String order) {
            String[] parts = order.substring(1).split("[,:+]");
            int[] n = Arrays.stream(parts).mapToInt(p -> p.isEmpty() ? 0 : p.length() > 3 ? -1 : Integer.parseInt(p)).toArray();
            switch (order.charAt(0)) {
                case 'w': return world.person(n[0]);
                case 'j': return world.job(n[0], n[1], n[2], n[3], n[4]);
                case 'g': return world.begin(n[0], parts[1].chars().map(c -> 1 << (c - '0')).reduce(0, (a, b) -> a | b),
                        parts.length > 2 ? n[2] : NONE);
                case 'd': return world.delay(n[0], n[1]);
                case 'x': return world.callOff(n[0]);
                case 'a': return world.assign();
                default: return world.pass(n[0]);
            }
        }
    }

    /** One run: an object, its model, and dice. */
    private static final class Run {
        final PianoCrews x = new PianoCrews();
        final Model m = new Model();
        final Random dice;
        final boolean wild;
        final String name;
        int calls;

        Run(int seed) {
            dice = new Random(seed);
            wild = seed % 4 == 0;
            name = "run " + seed;
        }

        void is(String call, int got, int want) {
            calls++;
            due.is(name + ", call " + calls + ": " + call, got, want);
        }

        /** A number from low to high, now and then one beside the range or far from it. */
        int n(int low, int high) {
            int throwIt = dice.nextInt(wild ? 12 : 60);
            switch (throwIt) {
                case 0: return low - 1;
                case 1: return high + 1;
                case 2: return dice.nextInt();
                default: return low + dice.nextInt(high - low + 1);
            }
        }

        int job() {
            return n(0, Math.max(0, m.world.pianos.size() - 1));
        }

        int kind() {
            return dice.nextInt(3) == 0 ? NONE : n(0, 2);
        }

        int crew(int job, int kind) {
            boolean guess = dice.nextInt(3) == 0 || m.world.noJob(job) || kind > 2 || (kind < 0 && kind != NONE);
            int crew = guess ? NONE : m.world.crewFor(m.world.pianos.get(job), kind);
            return crew != NONE ? crew : dice.nextInt(1 << Math.max(1, m.world.humans.size() + dice.nextInt(2)));
        }

        String order() {
            switch (dice.nextInt(8)) {
                case 0: return "w" + n(10, 150);
                case 1: return "j" + n(50, 300) + "," + n(0, 9) + "," + n(1, 9) + "," + n(0, 3) + "," + n(0, 300);
                case 2: return "g" + job() + ":" + dice.nextInt(1000) + (dice.nextBoolean() ? "+" + dice.nextInt(4) : "");
                case 3: return "d" + job() + "+" + n(1, 20);
                case 4: return "x" + job();
                case 5: return "n" + n(1, 20);
                default: return "a";
            }
        }

        void text() {
            StringBuilder text = new StringBuilder(order());
            for (int more = dice.nextInt(4); more > 0; more--) {
                text.append(';').append(order());
            }
            if (dice.nextInt(4) == 0) {
                text.setCharAt(dice.nextInt(text.length()), "0123456789;,:+wjgdxan!~".charAt(dice.nextInt(23)));
            }
            for (int from = 0; from < text.length(); from += 8) {
                String part = text.substring(from, Math.min(text.length(), from + 8));
                is("put " + part, x.put(Due.packed(part)), m.put(Due.packed(part)));
            }
            is("fault of " + m.pad, x.fault(), faultOf(m.pad));
            String was = m.pad;
            is("carryOut of " + was, x.carryOut(), m.carryOut());
            if (!m.pad.isEmpty() && dice.nextInt(3) > 0) {
                is("wipe", x.wipe(), m.wipe());
            }
        }

        void change() {
            World w = m.world.twin();
            World before = m.world;
            m.world = w;
            int job = job();
            int kind = kind();
            switch (dice.nextInt(11)) {
                case 0: {
                    int setting = n(0, 3);
                    int value = n(0, 20);
                    is("set", x.set(setting, value), m.changed(before, w.set(setting, value)));
                    break;
                }
                case 1: {
                    int full = n(10, 150);
                    is("person", x.person(full), m.changed(before, w.person(full)));
                    break;
                }
                case 2: {
                    int bought = n(0, 2);
                    is("buy", x.buy(bought), m.changed(before, w.buy(bought)));
                    break;
                }
                case 3: case 4: {
                    int weight = dice.nextInt(4) == 0 ? n(50, 600) : n(50, 200);
                    int floor = dice.nextBoolean() ? 0 : n(0, 9);
                    int hours = n(1, 9);
                    int priority = n(0, 3);
                    int deadline = dice.nextBoolean() ? n(0, 20) : n(0, 999);
                    is("job", x.job(weight, floor, hours, priority, deadline),
                            m.changed(before, w.job(weight, floor, hours, priority, deadline)));
                    break;
                }
                case 5: case 6: {
                    int crew = crew(job, kind);
                    is("begin", x.begin(job, crew, kind), m.changed(before, w.begin(job, crew, kind)));
                    break;
                }
                case 7:
                    is("assign", x.assign(), m.changed(before, w.assign()));
                    break;
                case 8: {
                    int hours = n(1, 20);
                    is("delay", x.delay(job, hours), m.changed(before, w.delay(job, hours)));
                    break;
                }
                case 9:
                    is("callOff", x.callOff(job), m.changed(before, w.callOff(job)));
                    break;
                default: {
                    int hours = dice.nextInt(6) == 0 ? n(1, 99) : n(1, 6);
                    is("pass", x.pass(hours), m.changed(before, w.pass(hours)));
                }
            }
        }

        void step() {
            int choice = dice.nextInt(40);
            if (choice < 30) {
                change();
            } else if (choice < 34) {
                text();
            } else if (choice < 36) {
                is("undo", x.undo(), m.undo());
            } else if (choice < 37) {
                int slot = n(0, 1);
                is("save", x.save(slot), m.save(slot));
            } else if (choice < 38) {
                int slot = n(0, 1);
                is("restore", x.restore(slot), m.restore(slot));
            } else {
                long characters = dice.nextLong() >>> (8 * dice.nextInt(8));
                is("put", x.put(characters), m.put(characters));
            }
        }

        void askOne() {
            World w = m.world;
            int job = job();
            int person = n(0, Math.max(0, w.humans.size() - 1));
            int kind = kind();
            int what = n(0, 12);
            switch (dice.nextInt(12)) {
                case 0: case 1: {
                    int crew = crew(job, kind);
                    is("why", x.why(job, crew, kind), w.why(job, crew, kind));
                    break;
                }
                case 2: is("crew", x.crew(job, kind), w.crew(job, kind)); break;
                case 3: is("bestStraps", x.bestStraps(job), w.bestStraps(job)); break;
                case 4: is("doneIn", x.doneIn(job), w.doneIn(job)); break;
                case 5: is("ifAssigned", x.ifAssigned(), w.twin().assign()); break;
                case 6: is("fault of " + m.pad, x.fault(), faultOf(m.pad)); break;
                case 7: is("ofJob " + job + " " + what, x.ofJob(job, what), w.ofJob(job, what)); break;
                case 8: is("of " + person + " " + what, x.of(person, what), w.of(person, what)); break;
                case 9: is("waiting " + what, x.waiting(what), w.waiting(what)); break;
                case 10: is("straps " + kind + " " + job, x.straps(kind, job), w.straps(kind, job)); break;
                default: is("count " + what, x.count(what), w.count(what, m.pad.length(), m.history.size()));
            }
        }

        /** Some 390 calls at most: 15 for each job, 8 for each person, and 63. */
        void askAll() {
            World w = m.world;
            askOfAJobThatMayWait();
            is("ifAssigned", x.ifAssigned(), w.twin().assign());
            is("fault of " + m.pad, x.fault(), faultOf(m.pad));
            for (int what = -1; what <= 16; what++) {
                is("count " + what, x.count(what), w.count(what, m.pad.length(), m.history.size()));
                is("waiting " + what, x.waiting(what), w.waiting(what));
            }
            for (int job = -1; job <= w.pianos.size(); job++) {
                for (int what = w.noJob(job) ? 13 : -1; what <= 13; what++) {
                    is("ofJob " + job + " " + what, x.ofJob(job, what), w.ofJob(job, what));
                }
            }
            for (int person = -1; person <= w.humans.size(); person++) {
                for (int what = person < 0 || person == w.humans.size() ? 6 : -1; what <= 6; what++) {
                    is("of " + person + " " + what, x.of(person, what), w.of(person, what));
                }
            }
            for (int kind = -1; kind <= 3; kind++) {
                for (int what = -1; what <= 2; what++) {
                    is("straps " + kind + " " + what, x.straps(kind, what), w.straps(kind, what));
                }
            }
        }

        private void askOfAJobThatMayWait() {
            World w = m.world;
            int job = w.order().isEmpty() ? job() : w.order().get(0).number;
            int kind = kind();
            int crew = crew(job, kind);
            is("why", x.why(job, crew, kind), w.why(job, crew, kind));
            is("crew", x.crew(job, kind), w.crew(job, kind));
            is("bestStraps", x.bestStraps(job), w.bestStraps(job));
            is("doneIn", x.doneIn(job), w.doneIn(job));
        }
    }

    public static void main(String[] args) {
        int runs = args.length > 0 ? Integer.parseInt(args[0]) : 8000;
        for (int seed = 0; seed < runs; seed++) {
            Run run = new Run(seed);
            int changing = run.dice.nextInt(CHANGING_CALLS);
            while (run.calls < changing) {
                run.step();
                if (run.dice.nextInt(4) == 0) {
                    run.askOne();
                }
            }
            run.askAll();
            due.is(run.name + ": calls are at most 512", Math.max(512, run.calls), 512);
        }
        due.end();
    }
}
