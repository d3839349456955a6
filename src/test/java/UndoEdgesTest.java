/** The boundary cases that the promises 25 to 27 name: undo, save and restore. */
public final class UndoEdgesTest {
    private static final int BAD_VALUE = Firms.BAD_VALUE, BAD_TEXT = Firms.BAD_TEXT, NOT_POSSIBLE = Firms.NOT_POSSIBLE;
    private static final int NONE = Firms.NONE;
    private static final int[] NO_SLOTS = {-1, 2, NONE, Integer.MIN_VALUE, Integer.MAX_VALUE};
    private static final Due due = new Due();

    public static void main(String[] args) {
        undoNothing();
        undoReturnsHowMany();
        undoOfEachChange();
        undoKeepsThePad();
        undoKeepsTheSlots();
        undoKeepsTheHistory();
        historyOfSix();
        historyGoesAround();
        historyOfChangesThatChangeNothing();
        historyWithoutQuestions();
        historyOfATextIsOne();
        saveBadSlot();
        saveReturnsTheJobs();
        saveIsNoChange();
        saveWithoutPadAndHistory();
        saveOverwrites();
        saveInTwoSlots();
        restoreBadSlot();
        restoreOfNothing();
        restoreReturnsTheJobs();
        restoreWhatWasSaved();
        restoreKeepsTheSlot();
        restoreIsAChange();
        restoreAFullFirmOverAnEmptyOne();
        newOnesInThePlacesOfUndoneOnes();
        due.end();
    }

    // ---- 25: undo

    private static void undoNothing() {
        due.says("25: NOT_POSSIBLE if there is none");
        PianoCrews x = new PianoCrews();
        due.is("a new object", x.undo(), NOT_POSSIBLE);
        x.person(9);
        due.is("after an error", x.undo(), NOT_POSSIBLE);
        x.person(10);
        due.is("after a change", x.undo(), 0);
        due.is("again", x.undo(), NOT_POSSIBLE);
        due.is("nobody", x.count(1), 0);
    }

    private static void undoReturnsHowMany() {
        due.says("25: Returns how many changes can be undone then");
        PianoCrews x = Firms.of(4, 50);
        for (int left = 3; left >= 0; left--) {
            due.is("left", x.undo(), left);
            due.is("count(15)", x.count(15), left);
            due.is("people", x.count(1), left);
        }
    }

    private static PianoCrews beforeAChange() {
        PianoCrews x = Firms.everyState();
        x.save(0);
        x.delay(1, 7);
        x.set(Firms.STEP, 3);
        x.pass(1);
        return x;
    }

    private static int change(PianoCrews x, int number) {
        switch (number) {
            case 0: return x.set(Firms.STEP, 50);
            case 1: return x.set(Firms.REST, 20);
            case 2: return x.set(Firms.TIRE, 20);
            case 3: return x.set(Firms.HANDS, 6);
            case 4: return x.person(150);
            case 5: return x.buy(0);
            case 6: return x.job(600, 9, 9, 3, 0);
            case 7: return x.begin(0, 5, 2);
            case 8: return x.assign();
            case 9: return x.delay(1, 20);
            case 10: return x.callOff(0);
            case 11: return x.callOff(1);
            case 12: return x.pass(1);
            case 13: return x.pass(99);
            case 14: return x.restore(0);
            default: return NONE;
        }
    }

    private static void undoOfEachChange() {
        due.says("25: everything except the pad, the slots and the history is as it was before it");
        for (int number = 0; number < 15; number++) {
            PianoCrews x = beforeAChange();
            String before = Firms.lookAtFirm(x);
            due.is("no error: change " + number, change(x, number) >= 0 ? 1 : 0, 1);
            due.is("something is different: change " + number, Firms.lookAtFirm(x).equals(before) ? 1 : 0, 0);
            due.is("undone: change " + number, x.undo(), 5);
            due.same("all that can be asked: change " + number, Firms.lookAtFirm(x), before);
        }
    }

    private static void undoKeepsThePad() {
        due.says("25: everything except the pad");
        PianoCrews x = Firms.of(1, 50);
        Due.put(x, "w60");
        x.undo();
        due.is("the pad stays", x.count(14), 3);
        x.carryOut();
        due.is("somebody", x.of(0, 0), 60);
        x.undo();
        due.is("the pad stays empty", x.count(14), 0);
        x.person(70);
        Due.put(x, "w80");
        x.wipe();
        x.undo();
        due.is("the pad stays wiped", x.count(14), 0);
    }

    private static void undoKeepsTheSlots() {
        due.says("25: everything except the slots");
        PianoCrews x = Firms.of(2, 50);
        x.save(0);
        x.undo();
        x.undo();
        due.is("nobody", x.count(1), 0);
        due.is("it is still saved", x.restore(0), 0);
        due.is("the two", x.count(1), 2);
        x.undo();
        x.save(0);
        x.restore(0);
        due.is("the slot that was overwritten", x.count(1), 0);
        due.is("the other slot", x.restore(1), NOT_POSSIBLE);
    }

    private static void undoKeepsTheHistory() {
        due.says("25: undo is no change: what was undone is gone, and a new change comes in its place");
        PianoCrews x = Firms.of(3, 50);
        x.undo();
        x.undo();
        due.is("one change", x.count(15), 1);
        x.pass(9);
        due.is("two changes", x.count(15), 2);
        due.is("the hours are undone", x.undo(), 1);
        due.is("hours", x.count(0), 0);
        due.is("people", x.count(1), 1);
        due.is("the first one is undone", x.undo(), 0);
        due.is("nobody", x.count(1), 0);
    }

    private static void historyOfSix() {
        due.says("25: A history of at most 6 states is kept; when one more is recorded, the oldest one is dropped");
        for (int changes = 5; changes <= 8; changes++) {
            PianoCrews x = Firms.of(changes, 50);
            int kept = Math.min(6, changes);
            due.is("kept of " + changes, x.count(15), kept);
            for (int left = kept - 1; left >= 0; left--) {
                due.is("left of " + changes, x.undo(), left);
            }
            due.is("no more of " + changes, x.undo(), NOT_POSSIBLE);
            due.is("people that stay of " + changes, x.count(1), changes - kept);
        }
    }

    private static void historyGoesAround() {
        due.says("25: when one more is recorded, the oldest one is dropped, time after time");
        for (int changes = 1; changes <= 30; changes++) {
            PianoCrews x = new PianoCrews();
            for (int n = 1; n <= changes; n++) {
                x.pass(n);
            }
            for (int undone = 0; undone < 3 && undone < changes; undone++) {
                x.undo();
            }
            x.pass(50);
            x.undo();
            int kept = Math.max(0, changes - 6);
            for (int left = x.count(15); left > 0; left--) {
                int hours = x.count(0);
                due.is("left", x.undo(), left - 1);
                due.is("hours of the change " + (kept + left), hours - x.count(0), kept + left);
            }
            due.is("hours that stay", x.count(0), kept * (kept + 1) / 2);
        }
    }

    private static void historyOfChangesThatChangeNothing() {
        due.says("25: (also if nothing is different then)");
        PianoCrews x = new PianoCrews();
        x.set(Firms.STEP, 10);
        due.is("set", x.count(15), 1);
        x.assign();
        due.is("assign", x.count(15), 2);
        x.save(1);
        x.restore(1);
        due.is("restore", x.count(15), 3);
        Due.put(x, "x0");
        x.carryOut();
        due.is("carryOut", x.count(15), 4);
        due.is("undone", x.undo(), 3);
    }

    private static void historyWithoutQuestions() {
        due.says("25: each method that is a change records the state before it: no other one does");
        PianoCrews x = Firms.with(100);
        Firms.job(x, 50, 1);
        Firms.look(x);
        x.why(0, 1, NONE);
        x.put('a');
        x.wipe();
        x.save(0);
        due.is("two changes", x.count(15), 2);
        x.undo();
        due.is("one change", x.count(15), 1);
    }

    private static void historyOfATextIsOne() {
        due.says("25: An order of a text records nothing by itself");
        PianoCrews x = new PianoCrews();
        x.person(100);
        Due.put(x, "w20;w30;w40;w50;a;n1;n2;n3;x0;w60");
        due.is("eight are carried out", x.carryOut(), 8);
        due.is("two changes", x.count(15), 2);
        x.undo();
        due.is("the first one stays", x.count(1), 1);
        due.is("hours", x.count(0), 0);
        Due.put(x, "w20;w");
        due.is("a fault", x.carryOut(), BAD_TEXT);
        due.is("one change", x.count(15), 1);
    }

    // ---- 26: save

    private static void saveBadSlot() {
        due.says("26: BAD_VALUE if there is no such slot");
        PianoCrews x = new PianoCrews();
        for (int slot : NO_SLOTS) {
            due.is("save(" + slot + ")", x.save(slot), BAD_VALUE);
        }
        due.is("nothing is saved", x.restore(0), NOT_POSSIBLE);
        due.is("nothing is saved", x.restore(1), NOT_POSSIBLE);
    }

    private static void saveReturnsTheJobs() {
        due.says("26: Returns how many jobs there were so far");
        PianoCrews x = new PianoCrews();
        due.is("none", x.save(0), 0);
        for (int n = 0; n < 16; n++) {
            Firms.job(x, 50, 1);
        }
        x.callOff(3);
        due.is("sixteen", x.save(1), 16);
        due.is("sixteen", x.save(0), 16);
    }

    private static void saveIsNoChange() {
        due.says("26: Saves everything: it is no change");
        PianoCrews x = Firms.everyState();
        String before = Firms.look(x);
        x.save(0);
        x.save(1);
        due.same("all that can be asked", Firms.look(x), before);
        x.undo();
        due.is("the hour is undone", x.count(0), 0);
    }

    private static void saveWithoutPadAndHistory() {
        due.says("26: everything except the pad, the history and the slots");
        PianoCrews x = Firms.of(2, 50);
        Due.put(x, "abc");
        x.save(0);
        x.save(1);
        x.person(60);
        Due.put(x, "de");
        x.undo();
        x.undo();
        x.person(70);
        x.save(1);
        due.is("restored", x.restore(0), 0);
        due.is("two people", x.count(1), 2);
        due.is("the second of before", x.of(1, 0), 50);
        due.is("the pad is as it was", x.count(14), 5);
        due.is("the history has one more", x.count(15), 3);
        x.restore(1);
        due.is("the other slot is as it was", x.of(1, 0), 70);
    }

    private static void saveOverwrites() {
        due.says("26: overwrites what was saved there");
        for (int slot = 0; slot <= 1; slot++) {
            PianoCrews x = Firms.everyState();
            due.is("four jobs", x.save(slot), 4);
            Firms.job(x, 50, 1);
            due.is("five jobs", x.save(slot), 5);
            x.pass(50);
            due.is("five jobs are restored", x.restore(slot), 5);
            due.is("in the hour 1", x.count(0), 1);
        }
    }

    private static void saveInTwoSlots() {
        due.says("26: slot: 0 or 1");
        PianoCrews x = Firms.of(1, 50);
        due.is("the slot 0", x.save(0), 0);
        due.is("not in the slot 1", x.restore(1), NOT_POSSIBLE);
        Firms.job(x, 50, 1);
        due.is("the slot 1", x.save(1), 1);
        x.person(60);
        due.is("of the slot 0", x.restore(0), 0);
        due.is("one person", x.count(1), 1);
        due.is("of the slot 1", x.restore(1), 1);
        due.is("one person", x.count(1), 1);
        due.is("one job", x.count(3), 1);
    }

    // ---- 27: restore

    private static void restoreBadSlot() {
        due.says("27: BAD_VALUE if there is no such slot");
        PianoCrews x = new PianoCrews();
        x.save(0);
        x.save(1);
        for (int slot : NO_SLOTS) {
            due.is("restore(" + slot + ")", x.restore(slot), BAD_VALUE);
        }
        due.is("no change", x.count(15), 0);
    }

    private static void restoreOfNothing() {
        due.says("27: NOT_POSSIBLE if nothing was saved in it");
        PianoCrews x = Firms.of(1, 50);
        due.is("the slot 0", x.restore(0), NOT_POSSIBLE);
        due.is("the slot 1", x.restore(1), NOT_POSSIBLE);
        x.save(1);
        due.is("still nothing in the slot 0", x.restore(0), NOT_POSSIBLE);
        due.is("the slot 1", x.restore(1), 0);
        due.is("two changes", x.count(15), 2);
    }

    private static void restoreReturnsTheJobs() {
        due.says("27: Returns how many jobs there were so far then");
        PianoCrews x = new PianoCrews();
        x.save(0);
        for (int n = 0; n < 16; n++) {
            Firms.job(x, 50, 1);
            x.callOff(n);
        }
        x.save(1);
        due.is("none", x.restore(0), 0);
        due.is("none", x.count(3), 0);
        due.is("sixteen", x.restore(1), 16);
        due.is("sixteen", x.count(3), 16);
    }

    private static void restoreWhatWasSaved() {
        due.says("27: Restores what was saved last in a slot");
        for (int number = 0; number < 15; number++) {
            PianoCrews x = beforeAChange();
            String before = Firms.look(x);
            x.save(1);
            change(x, number);
            due.is("four jobs", x.restore(1), 4);
            due.same("all that can be asked, after change " + number, Firms.look(x), before);
        }
    }

    private static void restoreKeepsTheSlot() {
        due.says("27: a slot, which keeps it");
        PianoCrews x = Firms.carrying(100, 50, 9);
        x.save(0);
        for (int n = 1; n <= 3; n++) {
            due.is("restored", x.restore(0), 1);
            due.is("hours", x.count(0), 0);
            due.is("the job", x.ofJob(0, Firms.LEFT), 9);
            due.is("the person", x.of(0, Firms.NOW), 100);
            x.pass(n);
            x.person(50);
        }
    }

    private static void restoreIsAChange() {
        due.says("27: This is a change");
        PianoCrews x = Firms.of(1, 50);
        x.save(0);
        x.person(60);
        x.restore(0);
        due.is("three changes", x.count(15), 3);
        due.is("one person", x.count(1), 1);
        due.is("undone", x.undo(), 2);
        due.is("two people", x.count(1), 2);
        due.is("the second one", x.of(1, 0), 60);
    }

    /** As many people and jobs as there can be, with a number of its own in each of their places. */
    private static void fill(PianoCrews x) {
        for (int n = 0; n < 10; n++) {
            x.person(60 + n);
        }
        for (int n = 0; n < 16; n++) {
            x.job(60 + 2 * n, n % 5, 1 + n % 9, n % 4, 3 + n);
        }
        x.set(Firms.TIRE, 12);
        x.begin(8, 0b11, 1);
        x.buy(2);
        x.assign();
        x.pass(7);
        x.assign();
        x.pass(1);
        x.delay(x.of(9, Firms.JOB), 5);
        x.callOff(x.waiting(0));
    }

    private static void restoreAFullFirmOverAnEmptyOne() {
        due.says("27: Restores what was saved last in a slot: as many people and jobs as there can be, and none");
        PianoCrews x = new PianoCrews();
        x.save(0);
        fill(x);
        x.save(1);
        due.is("nothing", x.restore(0), 0);
        due.is("nobody", x.count(1), 0);
        due.is("no job", x.count(3), 0);
        due.is("nobody is at a job", x.count(2), 0);
        due.is("all straps are free", x.straps(0, 1) + x.straps(1, 1) + x.straps(2, 1), 6);
        for (int n = 0; n < 10; n++) {
            x.person(150 - n);
        }
        for (int n = 0; n < 16; n++) {
            x.job(600 - n, 9, 9, 3, 99 + n);
        }
        x.pass(99);
        due.is("the full one", x.restore(1), 16);
        PianoCrews twin = new PianoCrews();
        fill(twin);
        due.same("all that can be asked", Firms.lookAtFirm(x), Firms.lookAtFirm(twin));
    }

    private static void newOnesInThePlacesOfUndoneOnes() {
        due.says("25: everything is as it was before it: who comes then, in the same place, begins anew");
        for (int hours = 0; hours <= 3; hours += 3) {
            PianoCrews x = new PianoCrews();
            x.save(0);
            fill(x);
            x.restore(0);
            PianoCrews twin = new PianoCrews();
            twin.pass(1);
            x.pass(1);
            for (int n = 0; n < 10; n++) {
                due.is("person " + n, x.person(90 + n), twin.person(90 + n));
            }
            for (int n = 0; n < 16; n++) {
                due.is("job " + n, x.job(80 - n, n % 3, 3, n % 2, n), twin.job(80 - n, n % 3, 3, n % 2, n));
            }
            for (int hour = 0; hour < hours; hour++) {
                due.is("assigned", x.assign(), twin.assign());
                due.is("done", x.pass(1), twin.pass(1));
            }
            due.same("all that can be asked", Firms.lookAtFirm(x), Firms.lookAtFirm(twin));
        }
    }
}
