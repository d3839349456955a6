/** The boundary cases of "Texts", under "Terms", and of the promises 21 to 24. */
public final class TextsEdgesTest {
    private static final int NO_SUCH = Firms.NO_SUCH, BAD_VALUE = Firms.BAD_VALUE, BAD_TEXT = Firms.BAD_TEXT;
    private static final int TOO_MANY = Firms.TOO_MANY, NOT_POSSIBLE = Firms.NOT_POSSIBLE, NONE = Firms.NONE;
    private static final Due due = new Due();

    public static void main(String[] args) {
        textOfOrders();
        ordersByTheirSigns();
        formOfOneNumber();
        formOfJob();
        formOfBegin();
        formOfDelay();
        formOfAssign();
        digits();
        leadingZeros();
        aboveTheHighestNumber();
        endsTooEarly();
        anEmptyText();
        aLongText();
        putReturnsTheLength();
        putOneToEightCharacters();
        putNoCharacter();
        putCodes();
        putAboveEightBitsOfZero();
        putTooMany();
        wipeReturnsTheLength();
        faultNone();
        carryOutBadText();
        carryOutReturnsHowMany();
        carryOutNone();
        carryOutUpToTheFirstError();
        carryOutErrorsOfEachOrder();
        carryOutEachOrder();
        carryOutToldTwice();
        carryOutStraps();
        carryOutIsOneChange();
        carryOutTheLongestTexts();
        due.end();
    }

    private static PianoCrews withText(String text) {
        PianoCrews x = new PianoCrews();
        Due.put(x, text);
        return x;
    }

    private static void fault(String text, int want) {
        due.is("fault of \"" + text + "\"", withText(text).fault(), want);
    }

    /** What can stand behind this text: each sign in its place is a fault there, but for these. */
    private static void canFollow(String text, String signs) {
        for (int code = 33; code <= 126; code++) {
            PianoCrews x = withText(text);
            x.put(code);
            boolean stands = signs.indexOf(code) >= 0;
            int got = x.fault();
            due.is("'" + (char) code + "' behind \"" + text + "\" (" + got + ")",
                got == NONE || got > text.length() ? 1 : 0, stands ? 1 : 0);
            if (!stands) {
                due.is("fault at '" + (char) code + "' behind \"" + text + "\"", got, text.length());
            }
        }
    }

    // ---- Terms: texts

    private static void textOfOrders() {
        due.says("text = order { \";\" order }");
        fault("a", NONE);
        fault("a;a", NONE);
        fault(";a", 0);
        fault("a;;a", 2);
        fault("a;", 2);
        fault("aa", 1);
        fault("a,a", 1);
        canFollow("a", ";");
    }

    private static void ordersByTheirSigns() {
        due.says("order = \"w\" .. | \"j\" .. | \"g\" .. | \"d\" .. | \"x\" .. | \"a\" | \"n\" ..");
        canFollow("", "wjgdxan");
        canFollow("a;", "wjgdxan");
        canFollow("n9;", "wjgdxan");
    }

    private static void formOfOneNumber() {
        due.says("\"w\" number, \"x\" number, \"n\" number");
        String[] signs = {"w", "x", "n"};
        for (String sign : signs) {
            canFollow(sign, "0123456789");
            canFollow(sign + "1", "0123456789;");
            canFollow(sign + "12", "0123456789;");
            canFollow(sign + "123", ";");
            canFollow(sign + "0", ";");
        }
    }

    private static void formOfJob() {
        due.says("\"j\" number \",\" digit \",\" digit \",\" digit \",\" number");
        canFollow("j", "0123456789");
        canFollow("j2", "0123456789,");
        canFollow("j20", "0123456789,");
        canFollow("j200", ",");
        canFollow("j0", ",");
        canFollow("j200,", "0123456789");
        canFollow("j200,3", ",");
        canFollow("j200,3,", "0123456789");
        canFollow("j200,3,2", ",");
        canFollow("j200,3,2,", "0123456789");
        canFollow("j200,3,2,1", ",");
        canFollow("j200,3,2,1,", "0123456789");
        canFollow("j200,3,2,1,5", "0123456789;");
        canFollow("j200,3,2,1,999", ";");
        canFollow("j200,3,2,1,0", ";");
        fault("j999,9,9,9,999", NONE);
        fault("j0,0,0,0,0", NONE);
    }

    private static void formOfBegin() {
        due.says("\"g\" number \":\" digit { digit } [ \"+\" digit ]");
        canFollow("g", "0123456789");
        canFollow("g1", "0123456789:");
        canFollow("g15", "0123456789:");
        canFollow("g151", ":");
        canFollow("g0", ":");
        canFollow("g0:", "0123456789");
        canFollow("g0:0", "0123456789+;");
        canFollow("g0:00", "0123456789+;");
        canFollow("g0:0123456789012", "0123456789+;");
        canFollow("g0:0+", "0123456789");
        canFollow("g0:0+0", ";");
        canFollow("g0:12+9", ";");
        fault("g0:0", NONE);
        fault("g0:0+0", NONE);
    }

    private static void formOfDelay() {
        due.says("\"d\" number \"+\" number");
        canFollow("d", "0123456789");
        canFollow("d1", "0123456789+");
        canFollow("d12", "0123456789+");
        canFollow("d123", "+");
        canFollow("d0", "+");
        canFollow("d0+", "0123456789");
        canFollow("d0+2", "0123456789;");
        canFollow("d0+20", "0123456789;");
        canFollow("d0+999", ";");
        canFollow("d0+0", ";");
        fault("d0+1", NONE);
    }

    private static void formOfAssign() {
        due.says("\"a\": assign()");
        fault("a0", 1);
        fault("a+", 1);
        fault("n1;a;x0", NONE);
    }

    private static void digits() {
        due.says("A digit is 0 to 9");
        for (int digit = 0; digit <= 9; digit++) {
            fault("w" + digit, NONE);
            fault("j50," + digit + ",1,0,0", NONE);
            fault("j50,0," + digit + ",0,0", NONE);
            fault("j50,0,1," + digit + ",0", NONE);
            fault("g0:" + digit, NONE);
            fault("g0:0+" + digit, NONE);
        }
        fault("w/", 1);
        fault("w:", 1);
        fault("j50,12,1,0,0", 5);
    }

    private static void leadingZeros() {
        due.says("a number 0 to 999, without leading zeros");
        fault("w0", NONE);
        fault("w00", 2);
        fault("w01", 2);
        fault("w012", 2);
        fault("w10", NONE);
        fault("w100", NONE);
        fault("j050,0,1,0,0", 2);
        fault("j50,0,1,0,00", 11);
        fault("d00+1", 2);
        fault("d0+01", 4);
        fault("g01:0", 2);
        due.says("{ digit }: these are no numbers");
        fault("g0:00", NONE);
        fault("g0:01", NONE);
    }

    private static void aboveTheHighestNumber() {
        due.says("(also of a digit by which a number would be above 999)");
        fault("w999", NONE);
        fault("w1000", 4);
        fault("w9990", 4);
        fault("n99999", 4);
        fault("x100;x1000", 9);
        fault("j1000,0,1,0,0", 4);
        fault("j100,0,1,0,1000", 14);
        fault("g1000:0", 4);
        fault("d1000+1", 4);
        fault("d0+1000", 6);
    }

    private static void endsTooEarly() {
        due.says("if there is none and the text ends too early, it is the length of the text");
        String[] texts = {"w", "x", "n", "a;", "a;w", "j", "j50", "j50,", "j50,0", "j50,0,", "j50,0,1", "j50,0,1,",
            "j50,0,1,0", "j50,0,1,0,", "g", "g0", "g0:", "g0:0+", "d", "d0", "d0+"};
        for (String text : texts) {
            fault(text, text.length());
        }
    }

    private static void anEmptyText() {
        due.says("(also if it is empty)");
        PianoCrews x = new PianoCrews();
        due.is("a new pad", x.fault(), 0);
        x.put('a');
        x.wipe();
        due.is("a wiped one", x.fault(), 0);
        x.put('a');
        x.carryOut();
        due.is("one that was carried out", x.fault(), 0);
    }

    private static void aLongText() {
        due.says("The pad is a text of at most 80 characters");
        fault("a;".repeat(39) + "a", NONE);
        fault("a;".repeat(40), 80);
        fault("a;".repeat(39) + "w1", NONE);
        fault("a;".repeat(39) + "ab", 79);
        fault("g0:" + "1".repeat(77), NONE);
        fault("g0:" + "1".repeat(75) + "+2", NONE);
        fault("g0:" + "1".repeat(76) + "+", 80);
        fault("b".repeat(80), 0);
    }

    // ---- 21: put

    private static void putReturnsTheLength() {
        due.says("21: Appends characters to the pad: Returns the length of the pad then");
        PianoCrews x = new PianoCrews();
        due.is("three", x.put(Due.packed("w12")), 3);
        due.is("one more", x.put('3'), 4);
        due.is("five more", x.put(Due.packed(";w77;")), 9);
        due.is("one more", x.put('a'), 10);
        due.is("they stand in their order", x.carryOut(), 3);
        due.is("the lowest 8 bits are the last character", x.of(0, 0), 123);
        due.is("the next one", x.of(1, 0), 77);
    }

    private static void putOneToEightCharacters() {
        due.says("21: 1 to 8 characters");
        for (int n = 1; n <= 8; n++) {
            PianoCrews x = new PianoCrews();
            due.is(n + " characters", x.put(Due.packed("abcdefgh".substring(0, n))), n);
            due.is("the length", x.count(14), n);
        }
        PianoCrews x = new PianoCrews();
        x.put(Due.packed("w150;w10"));
        due.is("all eight of them", x.carryOut(), 2);
        due.is("the first ones", x.of(0, 0), 150);
        due.is("the last ones", x.of(1, 0), 10);
    }

    private static void putNoCharacter() {
        due.says("21: BAD_VALUE if there is no character");
        PianoCrews x = withText("a");
        due.is("0", x.put(0), BAD_VALUE);
        due.is("the length", x.count(14), 1);
    }

    private static void putCodes() {
        due.says("21: BAD_VALUE if a code is not 33 to 126");
        for (int code = 1; code <= 255; code++) {
            boolean stands = code >= 33 && code <= 126;
            due.is("code " + code, new PianoCrews().put(code), stands ? 1 : BAD_VALUE);
        }
        long eight = Due.packed("aaaaaaaa");
        int[] out = {1, 32, 127, 128, 255};
        for (int place = 0; place < 8; place++) {
            for (int code : out) {
                long characters = eight & ~(255L << 8 * place) | (long) code << 8 * place;
                due.is("code " + code + " at the place " + place, new PianoCrews().put(characters), BAD_VALUE);
            }
        }
        due.is("the highest ones", new PianoCrews().put(Due.packed("~~~~~~~~")), 8);
        due.is("the lowest ones", new PianoCrews().put(Due.packed("!!!!!!!!")), 8);
        due.is("-1", new PianoCrews().put(-1), BAD_VALUE);
        due.is("the lowest number", new PianoCrews().put(Long.MIN_VALUE), BAD_VALUE);
        due.is("the highest number", new PianoCrews().put(Long.MAX_VALUE), BAD_VALUE);
    }

    private static void putAboveEightBitsOfZero() {
        due.says("21: BAD_VALUE if a bit above 8 bits that are 0 is not 0");
        for (int bit = 8; bit < 64; bit++) {
            due.is("bit " + bit + " above no character", new PianoCrews().put(1L << bit), BAD_VALUE);
        }
        for (int bit = 16; bit < 64; bit++) {
            due.is("bit " + bit + " above one character", new PianoCrews().put('a' | 1L << bit), BAD_VALUE);
        }
        long six = Due.packed("abcdef");
        for (int bit = 56; bit < 64; bit++) {
            due.is("bit " + bit + " above six characters", new PianoCrews().put(six | 1L << bit), BAD_VALUE);
        }
        due.is("a character above 8 bits that are 0", new PianoCrews().put('a' | (long) 'a' << 16), BAD_VALUE);
        due.is("six characters", new PianoCrews().put(six), 6);
    }

    private static void putTooMany() {
        due.says("21: TOO_MANY if the pad would be longer than 80");
        for (int n = 1; n <= 8; n++) {
            String more = "hijklmno".substring(0, n);
            PianoCrews x = withText("a".repeat(80 - n));
            due.is(n + " to 80", x.put(Due.packed(more)), 80);
            due.is("one more", x.put('a'), TOO_MANY);
            PianoCrews y = withText("a".repeat(81 - n));
            due.is(n + " to 81", y.put(Due.packed(more)), TOO_MANY);
            due.is("nothing is appended", y.count(14), 81 - n);
        }
        PianoCrews full = withText("a".repeat(80));
        full.wipe();
        due.is("there is room again", full.put('a'), 1);
    }

    // ---- 22: wipe, 23: fault

    private static void wipeReturnsTheLength() {
        due.says("22: Empties the pad, and returns the length that it had");
        due.is("empty", new PianoCrews().wipe(), 0);
        PianoCrews x = withText("a".repeat(80));
        due.is("full", x.wipe(), 80);
        due.is("empty then", x.count(14), 0);
        due.is("again", x.wipe(), 0);
        Due.put(x, "n1");
        due.is("two", x.wipe(), 2);
        Due.put(x, "a");
        due.is("nothing is left of it", x.fault(), NONE);
        due.is("no change", x.count(15), 0);
    }

    private static void faultNone() {
        due.says("23: Returns the fault of the pad, NONE if there is none");
        PianoCrews x = withText("n1;b");
        due.is("a fault", x.fault(), 3);
        due.is("the same again", x.fault(), 3);
        due.is("the pad stays", x.count(14), 4);
        x.wipe();
        Due.put(x, "n1");
        due.is("none", x.fault(), NONE);
        due.is("none again", x.fault(), NONE);
        due.is("nothing is carried out", x.count(0), 0);
        Due.put(x, "000");
        due.is("appended to, it has one", x.fault(), 4);
    }

    // ---- 24: carryOut

    private static void carryOutBadText() {
        due.says("24: BAD_TEXT if the pad has a fault (then it stays)");
        String[] texts = {"", "b", "w100;", "w100;b", "w100;w1000", "w100;w"};
        for (String text : texts) {
            PianoCrews x = withText(text);
            due.is("\"" + text + "\"", x.carryOut(), BAD_TEXT);
            due.is("it stays", x.count(14), text.length());
            due.is("nobody came", x.count(1), 0);
            due.is("no change", x.count(15), 0);
        }
        PianoCrews x = withText("w100;w");
        x.carryOut();
        Due.put(x, "90");
        due.is("it can be mended", x.carryOut(), 2);
        due.is("person 0", x.of(0, 0), 100);
        due.is("person 1", x.of(1, 0), 90);
    }

    private static void carryOutReturnsHowMany() {
        due.says("24: Returns how many orders were carried out, and empties the pad");
        PianoCrews x = withText("w100");
        due.is("one", x.carryOut(), 1);
        due.is("empty", x.count(14), 0);
        Due.put(x, "a;n1;a;n2");
        due.is("four", x.carryOut(), 4);
        due.is("three hours", x.count(0), 3);
        due.is("an empty pad has a fault", x.carryOut(), BAD_TEXT);
    }

    private static void carryOutNone() {
        due.says("24: This is a change (one, with all of them; also if none is carried out)");
        PianoCrews x = withText("x0;w100");
        due.is("none", x.carryOut(), 0);
        due.is("the pad is empty", x.count(14), 0);
        due.is("nobody came", x.count(1), 0);
        due.is("a change", x.count(15), 1);
        due.is("it can be undone", x.undo(), 0);
    }

    private static void carryOutUpToTheFirstError() {
        due.says("24: one after the other, up to the first one that returns an error");
        String[] texts = {"w9;w20;w30", "w20;w9;w30", "w20;w30;w9", "w20;w30;w40"};
        for (int n = 0; n < texts.length; n++) {
            PianoCrews x = withText(texts[n]);
            due.is(texts[n], x.carryOut(), n);
            due.is("people by " + texts[n], x.count(1), n);
            due.is("empty by " + texts[n], x.count(14), 0);
        }
    }

    private static void carryOutErrorsOfEachOrder() {
        due.says("24: up to the first one that returns an error");
        String[] texts = {"w9", "w151", "j49,0,1,0,0", "j601,0,1,0,0", "j50,0,0,0,0", "j50,0,1,4,0", "g3:0", "g0:0",
            "g1:0", "g1:3", "g1:1+3", "g1:1+9", "g1:1+2", "d3+1", "d0+0", "d0+21", "d0+11", "d1+1", "x3", "x2", "n0",
            "n100"};
        for (String text : texts) {
            PianoCrews x = Firms.with(100, 100);
            Firms.job(x, 50, 9);
            x.job(60, 1, 9, 0, 9);
            Firms.job(x, 50, 9);
            x.callOff(2);
            x.begin(0, 1, NONE);
            x.delay(0, 20);
            x.delay(0, 20);
            x.delay(0, 10);
            String before = Firms.look(x);
            Due.put(x, text);
            due.is(text, x.carryOut(), 0);
            due.same("nothing else changes by " + text, Firms.look(x), before);
        }
        PianoCrews full = Firms.of(10, 50);
        for (int n = 0; n < 16; n++) {
            Firms.job(full, 50, 1);
        }
        Due.put(full, "w50");
        due.is("an eleventh person", full.carryOut(), 0);
        Due.put(full, "j50,0,1,0,0");
        due.is("a seventeenth job", full.carryOut(), 0);
        PianoCrews late = Firms.atTheLastHour();
        Due.put(late, "a;n1");
        due.is("above 9999 hours", late.carryOut(), 1);
        due.is("hours", late.count(0), 9999);
    }

    private static void carryOutEachOrder() {
        due.says("\"w\": person() with a full strength; \"j\": job() with its weight, floor, hours, priority and "
            + "deadline; \"g\": begin(); \"d\": delay(); \"x\": callOff(); \"a\": assign(); \"n\": pass() hours");
        PianoCrews x = withText("w10;w150;j600,9,8,3,999;j50,0,1,0,0");
        due.is("w and j", x.carryOut(), 4);
        due.is("the weakest", x.of(0, 0), 10);
        due.is("the strongest", x.of(1, 0), 150);
        int[] told = {600, 9, 8, 3, 999};
        for (int what = 0; what < 5; what++) {
            due.is("ofJob(0, " + what + ")", x.ofJob(0, what), told[what]);
        }
        Due.put(x, "g1:1+2;d1+20;n20;x0");
        due.is("g, d, n and x", x.carryOut(), 4);
        due.is("the load with the kind 2", x.ofJob(1, Firms.LOAD), 40);
        due.is("the crew", x.ofJob(1, Firms.CREW), 2);
        due.is("the delay is over", x.ofJob(1, Firms.DELAY), 0);
        due.is("hours", x.count(0), 20);
        due.is("called off", x.ofJob(0, Firms.HOW), 3);
        Due.put(x, "n99;j150,0,1,0,999;a");
        due.is("n, j and a", x.carryOut(), 3);
        due.is("the others", x.ofJob(1, Firms.DONE_AT), 20);
        due.is("the crew by itself", x.ofJob(2, Firms.CREW), 2);
    }

    private static void carryOutToldTwice() {
        due.says("with the people told, one by one (one told twice counts once)");
        PianoCrews x = withText("w50;w50;j100,0,1,0,0;g0:0101;n1");
        due.is("two people told twice", x.carryOut(), 5);
        due.is("the two", x.ofJob(0, Firms.CREW), 3);
        PianoCrews alone = withText("w50;w50;j100,0,1,0,0;g0:00");
        due.is("one told twice is not as strong as two", alone.carryOut(), 3);
        PianoCrews ten = Firms.of(10, 50);
        ten.set(Firms.HANDS, 6);
        Firms.job(ten, 300, 1);
        Due.put(ten, "g0:9753199");
        due.is("five people are too weak", ten.carryOut(), 0);
        Due.put(ten, "g0:9753108765");
        due.is("nine people are too many", ten.carryOut(), 0);
        Due.put(ten, "g0:975310");
        due.is("six people", ten.carryOut(), 1);
        due.is("from 0 to 9", ten.ofJob(0, Firms.CREW), 0b1010101011);
    }

    private static void carryOutStraps() {
        due.says("and with straps of a kind");
        for (int kind = -1; kind <= 2; kind++) {
            PianoCrews x = Firms.with(100);
            Firms.job(x, 100, 1);
            Due.put(x, kind < 0 ? "g0:0" : "g0:0+" + kind);
            due.is("kind " + kind, x.carryOut(), 1);
            due.is("its straps " + kind, x.ofJob(0, Firms.KIND), kind < 0 ? NONE : kind);
        }
        for (int kind = 3; kind <= 9; kind++) {
            PianoCrews x = Firms.with(100);
            Firms.job(x, 100, 1);
            Due.put(x, "g0:0+" + kind);
            due.is("kind " + kind, x.carryOut(), 0);
        }
        PianoCrews two = Firms.with(100, 100);
        Firms.job(two, 50, 1);
        Firms.job(two, 50, 1);
        Due.put(two, "g0:0+1;g1:1");
        due.is("with, and then without", two.carryOut(), 2);
        due.is("with", two.ofJob(0, Firms.KIND), 1);
        due.is("without", two.ofJob(1, Firms.KIND), NONE);
    }

    private static void carryOutIsOneChange() {
        due.says("24: This is a change (one, with all of them)");
        PianoCrews x = withText("w100;w90;j50,0,1,0,0;a;n1;n1;n1;n1");
        String before = Firms.look(new PianoCrews());
        due.is("eight", x.carryOut(), 8);
        due.is("one change", x.count(15), 1);
        due.is("hours", x.count(0), 4);
        due.is("undone", x.undo(), 0);
        due.same("as ahead of it, without the text", Firms.look(x), before);
        due.is("none left", x.undo(), NOT_POSSIBLE);
        due.is("nobody", x.of(0, 0), NO_SUCH);
    }

    private static void carryOutTheLongestTexts() {
        due.says("The pad is a text of at most 80 characters, a row of orders");
        PianoCrews x = withText("a;".repeat(39) + "a");
        due.is("40 orders", x.carryOut(), 40);
        PianoCrews hours = withText("n1;".repeat(26) + "n1");
        due.is("27 orders in 80 characters", hours.carryOut(), 27);
        due.is("27 hours", hours.count(0), 27);
        PianoCrews one = Firms.with(100, 100);
        Firms.job(one, 100, 1);
        Due.put(one, "g0:" + "01".repeat(37) + "0+0");
        due.is("80 characters, two people, the kind 0", one.count(14), 80);
        due.is("one order", one.carryOut(), 1);
        due.is("the crew", one.ofJob(0, Firms.CREW), 3);
        due.is("the straps", one.ofJob(0, Firms.KIND), 0);
    }
}
