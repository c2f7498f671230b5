/** Compares answers with those that are due, and ends a test with exit code 1 if one was wrong. */
final class Check {
    private int wrong = 0;
    private int checked = 0;

    void due(String call, long got, long want) {
        checked++;
        if (got != want) {
            wrong++;
            System.out.println(call + " answered " + got + ", due is " + want);
        }
    }

    /** A call that was refused, with the digest before it and after it. */
    void refused(String call, long got, long want, long before, long after) {
        due(call, got, want);
        due(call + " leaves the digest", after, before);
    }

    void end() {
        System.out.println(checked + " checked, " + wrong + " wrong");
        if (wrong != 0) {
            System.exit(1);
        }
    }

    static void write(WineByYears x, String text) {
        for (int i = 0; i < text.length(); i++) {
            x.letter(text.charAt(i));
        }
    }

    /** A new object whose cellar is read from the text. */
    static WineByYears cellarOf(String text) {
        WineByYears x = new WineByYears();
        write(x, text);
        x.cellar();
        return x;
    }
}
