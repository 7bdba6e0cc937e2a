/** What the tests share: a count of the answers that are not as due, and texts fed to THE TAPE. */
final class Due {
    private final String test;
    private int asked = 0;
    private int wrong = 0;

    Due(String test) {
        this.test = test;
    }

    void is(String call, long got, long want) {
        asked++;
        if (got != want) {
            wrong++;
            System.out.println(test + ": " + call + " answered " + got + ", due is " + want);
        }
    }

    void so(String what, boolean holds) {
        is(what, holds ? 1 : 0, 1);
    }

    /** Ends the test: with exit code 1 if an answer was not as due. */
    void end() {
        System.out.println(test + ": " + asked + " answers, " + wrong + " not as due");
        if (wrong != 0) {
            System.exit(1);
        }
    }

    /** Feeds a text, eight bytes at a time; answers the last call's answer. */
    static int feed(SmallTongues tongues, String text) {
        int answer = tongues.count(6);
        for (int start = 0; start < text.length(); start += 8) {
            int end = Math.min(text.length(), start + 8);
            long w = 0;
            for (int i = start; i < end; i++) {
                w = w << 8 | text.charAt(i) & 255;
            }
            answer = tongues.feed(w, end - start);
        }
        return answer;
    }

    static int law(SmallTongues tongues, String text) {
        feed(tongues, text);
        return tongues.law();
    }

    static int coin(SmallTongues tongues, int tongue, int meaning, String text) {
        feed(tongues, text);
        return tongues.coin(tongue, meaning);
    }

    /** A WORD as a text; empty if there is none. */
    static String word(SmallTongues tongues, int tongue, int meaning) {
        StringBuilder text = new StringBuilder();
        for (int i = 0; i < tongues.word(tongue, meaning, -1); i++) {
            text.append((char) ('a' + tongues.word(tongue, meaning, i)));
        }
        return text.toString();
    }
}
