/** Counts answers that are not as due, and feeds texts. */
final class Check {
    private static int wrong = 0;
    private static int asked = 0;

    private Check() {
    }

    static void due(String what, long got, long want) {
        asked++;
        if (got != want) {
            wrong++;
            if (wrong <= 50) {
                System.out.println(what + " answered " + got + ", due is " + want);
            }
        }
    }

    static void due(String what, boolean got, boolean want) {
        due(what, got ? 1 : 0, want ? 1 : 0);
    }

    /** The five numbers of each twenty bytes of a text, padded by blanks. */
    static int[] numbers(String text) {
        int rows = (text.length() + 19) / 20;
        int[] all = new int[rows * 5];
        for (int i = 0; i < rows * 20; i++) {
            int sign = i < text.length() ? text.charAt(i) : ' ';
            all[i / 4] = all[i / 4] << 8 | (sign & 255);
        }
        return all;
    }

    static void feed(MistakesLent x, String text) {
        int[] all = numbers(text);
        for (int i = 0; i < all.length; i += 5) {
            x.feed(all[i], all[i + 1], all[i + 2], all[i + 3], all[i + 4]);
        }
    }

    /** Feeds a text and makes it the museum: what museum() answers. */
    static int load(MistakesLent x, String text) {
        feed(x, text);
        return x.museum(text.length());
    }

    static MistakesLent loaded(String text) {
        MistakesLent x = new MistakesLent();
        int slips = load(x, text);
        if (slips < 0) {
            due("museum() of \"" + text + "\", fault " + x.fault() + " at " + x.where(), 1, 0);
        }
        return x;
    }

    /** -1 for NoSuchElementException. */
    static int led(MistakesLent x, int i) {
        try {
            return x.led(i);
        } catch (java.util.NoSuchElementException e) {
            return -1;
        }
    }

    static void finish() {
        System.out.println(asked + " answers, " + wrong + " not as due");
        if (wrong != 0 || asked == 0) {
            System.exit(1);
        }
    }
}
