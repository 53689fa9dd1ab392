/** What a test needs: it tells every answer that isn't the one that is due, and ends with 1 if there was one. */
final class Due {
    private int asked;
    private int wrong;
    private String sentence = "";

    /** The document's sentence that is asked about from here on: it is told with what is wrong. */
    void says(String words) {
        sentence = words;
    }

    void same(String what, long got, long want) {
        asked++;
        if (got != want) {
            tellWrong(what + " answered " + got + ", due is " + want);
        }
    }

    void holds(String what, boolean true_) {
        asked++;
        if (!true_) {
            tellWrong(what + " doesn't hold");
        }
    }

    private void tellWrong(String what) {
        wrong++;
        System.out.println((sentence.isEmpty() ? "" : "\"" + sentence + "\": ") + what);
    }

    void end() {
        System.out.println(wrong == 0 ? asked + " answers are as due" : wrong + " answers are not as due");
        if (wrong != 0) {
            System.exit(1);
        }
    }

    /** The text comes on the tape, with blanks behind it. */
    static void tape(BothKnow x, String text) {
        for (int k = 0; k < text.length(); k += 20) {
            int[] words = new int[5];
            for (int b = 0; b < 20; b++) {
                int c = k + b < text.length() ? text.charAt(k + b) : ' ';
                words[b / 4] |= (c & 255) << 24 - 8 * (b % 4);
            }
            x.feed(words[0], words[1], words[2], words[3], words[4]);
        }
    }

    static int read(BothKnow x, String text) {
        tape(x, text);
        return x.house(text.length());
    }

    /** A new object with a house that has no fault. */
    static BothKnow told(String text) {
        BothKnow x = new BothKnow();
        int lines = read(x, text);
        if (lines < 1) {
            throw new IllegalStateException(lines + " for " + text);
        }
        return x;
    }

    /** A tray of numbers of 64 bits. */
    static void tray(BothKnow x, int tray, long... numbers) {
        x.numbers(tray, 3, numbers.length);
        for (int k = 0; k < numbers.length; k++) {
            x.write(tray, k, numbers[k]);
        }
    }
}
