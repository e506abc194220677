// Counts and prints the answers that are not the ones that are due.
final class Due {
    private static int wrong = 0;
    private static int asked = 0;
    private static String about = "";

    private Due() {
    }

    // What all that is asked from now on is about.
    static void about(String what) {
        about = what;
    }

    static int asked() {
        return asked;
    }

    static void is(String call, long got, long want) {
        asked++;
        if (got != want) {
            wrong++;
            System.out.println(about + call + " answered " + got + ", due is " + want);
        }
    }

    // Feeds a text to THE TAPE, eight bytes at a time.
    static void feed(FairNext x, String text) {
        for (int from = 0; from < text.length(); from += 8) {
            int n = Math.min(8, text.length() - from);
            long eight = 0;
            for (int i = 0; i < n; i++) {
                eight |= (text.charAt(from + i) & 255L) << (8 * i);
            }
            is("feed of " + text, x.feed(eight, n), from + n);
        }
    }

    static int read(FairNext x, String text) {
        feed(x, text);
        return x.book();
    }

    static FairNext of(String text) {
        FairNext x = new FairNext();
        int told = read(x, text);
        is("a good text: " + text + " (1 if it is)", told >= 0 ? 1 : told, 1);
        return x;
    }

    static void end(String test) {
        System.out.println(test + ": " + asked + " asked, " + wrong + " wrong");
        if (wrong != 0 || asked == 0) {
            System.exit(1);
        }
    }
}
