/** Counts and prints the answers that are not the ones that are due. */
final class Due {
    private int asked;
    private int wrong;
    private String sentence = "";
    private boolean proved = true;

    /** The sentence of the document that the next answers prove: each one has some. */
    void says(String words) {
        needProof();
        sentence = words + " -- ";
        proved = false;
    }

    void is(String call, long got, long want) {
        asked++;
        proved = true;
        if (got != want) {
            tell(call + " answered " + got + ", due is " + want);
        }
    }

    void same(String call, String got, String want) {
        asked++;
        proved = true;
        if (!got.equals(want)) {
            tell(call + " answered " + got + ", due is " + want);
        }
    }

    /** Puts a text of any length on the pad, eight characters at a time. */
    static int put(PianoCrews crews, String text) {
        int answer = crews.count(14);
        for (int from = 0; from < text.length(); from += 8) {
            answer = crews.put(packed(text.substring(from, Math.min(text.length(), from + 8))));
        }
        return answer;
    }

    static long packed(String text) {
        long characters = 0;
        for (int i = 0; i < text.length(); i++) {
            characters = characters << 8 | text.charAt(i);
        }
        return characters;
    }

    void end() {
        needProof();
        System.out.println(asked + " answers, " + wrong + " not as due");
        if (wrong != 0 || asked == 0) {
            System.exit(1);
        }
    }

    private void needProof() {
        if (!proved) {
            tell("nothing was asked");
        }
    }

    private void tell(String fault) {
        wrong++;
        System.out.println(sentence + fault);
    }
}
