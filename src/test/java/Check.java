import java.util.Arrays;
import java.util.function.Supplier;
import java.util.function.ToLongFunction;

/** Compares answers with those that are due, and ends a test with exit code 1 if one was wrong. */
final class Check {
    private int wrong = 0;
    private int checked = 0;
    private String words = "";

    /** The document's words, or a call and its refusals, that are checked behind this: a wrong answer names them. */
    void words(String quoted) {
        words = "[" + quoted + "] ";
    }

    void due(String call, long got, long want) {
        checked++;
        if (got != want) {
            wrong++;
            System.out.println(words + call + " answered " + got + ", due is " + want);
        }
    }

    /** A call that was refused, with the digest before it and after it. */
    void refused(String call, long got, long want, long before, long after) {
        due(call, got, want);
        due(call + " leaves the digest", after, before);
    }

    /** A call of an object that is made so, its answer, and that nothing that can be told changes by it. */
    void unchanged(String call, Supplier<WineByYears> made, ToLongFunction<WineByYears> asked, long want) {
        WineByYears x = made.get();
        long[] before = told(x);
        due(call, asked.applyAsLong(x), want);
        same(call + " leaves", told(x), before);
        // No count tells of an IMAGE: what is kept is seen beside an object that was not asked.
        WineByYears other = made.get();
        due(call + " leaves restore()", x.restore(), other.restore());
        same(call + ", restore() leave", told(x), told(other));
    }

    private static long[] told(WineByYears x) {
        long[] all = new long[9];
        for (int what = 0; what < 8; what++) {
            all[what] = x.count(what);
        }
        all[8] = x.digest();
        return all;
    }

    private void same(String call, long[] got, long[] want) {
        for (int i = 0; i < got.length; i++) {
            due(call + (i < 8 ? " count(" + i + ")" : " digest()"), got[i], want[i]);
        }
    }

    void end() {
        System.out.println(checked + " checked, " + wrong + " wrong");
        if (wrong != 0) {
            System.exit(1);
        }
    }

    /** The first ints beyond what is allowed, on both sides, and the last that there are. */
    static int[] beyond(int least, int greatest) {
        return new int[] {least - 1, greatest + 1, Integer.MIN_VALUE, Integer.MAX_VALUE};
    }

    /** Bits of which one at least is none of so many people. */
    static int[] notPeople(int howMany) {
        int first = 1 << howMany;
        return new int[] {first, first | first - 1, 32, 1 << 30, -1, Integer.MIN_VALUE, Integer.MAX_VALUE};
    }

    static void write(WineByYears x, String text) {
        for (int i = 0; i < text.length(); i++) {
            x.letter(text.charAt(i));
        }
    }

    /** A new object with this text as its page. */
    static WineByYears pageOf(String text) {
        WineByYears x = new WineByYears();
        write(x, text);
        return x;
    }

    /** A new object whose cellar is read from the text. */
    static WineByYears cellarOf(String text) {
        WineByYears x = pageOf(text);
        x.cellar();
        return x;
    }

    /** A cellar with people, each told by a digit of his KIND and one of the YEAR in which he is BORN. */
    static WineByYears peopled(String text, String... people) {
        WineByYears x = cellarOf(text);
        for (String person : people) {
            x.person(person.charAt(0) - '0', person.charAt(1) - '0');
        }
        return x;
    }

    /** A cellar with so many WITCHES, who MAY of all that is not empty. */
    static WineByYears witches(String text, int howMany) {
        String[] people = new String[howMany];
        Arrays.fill(people, "39");
        return peopled(text, people);
    }

    /**
     * One in which all that can be kept is kept, and is not as it is kept: 1 litre of year 3, 2 of
     * year 7, 1 of year 3; a GUEST, a KING and an ABBOT, two of them ILL; three TRIALS; a page.
     */
    static WineByYears busy() {
        WineByYears x = peopled("2;34,72,50", "03", "29");
        x.drink(1, 0);
        x.trial(0, true);
        x.trial(1, false);
        x.image();
        x.person(4, 3);
        x.drink(0, 0);
        x.pour(0, 2, 1);
        x.trial(2, true);
        write(x, "1;2");
        return x;
    }
}
