/** Counts the answers that are not the ones due, and tells them. */
final class Checks {
    private int wrong;
    private int asked;

    void due(String call, long got, long want) {
        asked++;
        if (got != want) {
            wrong++;
            System.out.println(call + " answered " + got + ", due is " + want);
        }
    }

    void due(String call, boolean got, boolean want) {
        due(call, got ? 1 : 0, want ? 1 : 0);
    }

    void finish(String name) {
        System.out.println(name + ": " + asked + " answers, " + wrong + " not as due");
        if (wrong != 0 || asked == 0) {
            System.exit(1);
        }
    }

    /** Feeds a text, whatever the tape had before. */
    static void tape(ClothesHorses x, String text) {
        x.end(0);
        int[] word = new int[5];
        for (int from = 0; from < text.length(); from += 20) {
            for (int i = 0; i < 5; i++) {
                word[i] = 0;
                for (int j = 0; j < 4; j++) {
                    int at = from + 4 * i + j;
                    word[i] = word[i] << 8 | (at < text.length() ? text.charAt(at) & 255 : 0);
                }
            }
            x.feed(word[0], word[1], word[2], word[3], word[4]);
        }
        x.end(text.length());
    }

    /** Feeds a text and reads it. */
    static int text(ClothesHorses x, String text) {
        tape(x, text);
        return x.text();
    }
}
