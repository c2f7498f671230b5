import java.math.BigInteger;
import java.util.ArrayList;
import java.util.List;

/** The edges of an IMAGE ("Terms"), of what is told of all, and of promises 21 to 24. */
final class ImageEdgesTest {
    private static final Check CHECK = new Check();
    private static final String LONGEST_PAGE = "3;19,28,37,46,55,6";

    public static void main(String[] args) {
        keepsCasks();
        keepsHowManyPeople();
        keepsHowOftenIll();
        keepsTrials();
        keepsNothingElse();
        oneTheLatest();
        imageTells();
        imageWithoutCellar();
        restoreAgain();
        restoreOfNone();
        restoreOfAnother();
        countsAtTheirEdges();
        countOutside();
        digestWithoutCellar();
        digestWraps();
        digestOfAll();
        digestOfLeast();
        CHECK.end();
    }

    private static void keepsCasks() {
        CHECK.words("An IMAGE keeps what is in each CASK");
        WineByYears x = Check.witches("0;19,29,39,49,09", 1);
        x.pour(1, 0, 9);
        x.pour(2, 0, 2);
        long before = x.digest();
        CHECK.due("image()", x.image(), 45);
        x.pour(0, 1, 9);
        x.pour(0, 1, 9);
        x.drink(0, 0);
        x.drink(0, 0);
        x.pour(4, 3, 9);
        x.drink(0, 3);
        CHECK.due("LITRES meanwhile", x.count(2), 42);
        CHECK.due("restore()", x.restore(), 45);
        CHECK.due("digest()", x.digest(), before);
        int[] litres = {20, 0, 7, 9, 9};
        for (int cask = 0; cask < 5; cask++) {
            CHECK.due("LITRES of " + cask, x.cask(cask, 0), litres[cask]);
        }
        CHECK.due("YEARS of a full one", x.cask(0, 3), 14);
        CHECK.due("into a full one", x.pour(2, 0, 1), WineByYears.STATE);
        CHECK.due("of an empty one", x.drink(0, 1), WineByYears.STATE);
    }

    private static void keepsHowManyPeople() {
        CHECK.words("how many PEOPLE there are (those that come since are gone by restore())");
        for (int kept = 0; kept <= 5; kept++) {
            WineByYears x = Check.witches("0;19,29", kept);
            long before = x.digest();
            x.image();
            for (int number = kept; number < 5; number++) {
                CHECK.due("one comes", x.person(2, 9), number);
                x.drink(number, 0);
            }
            CHECK.due("a sixth", x.person(2, 9), WineByYears.FULL);
            x.restore();
            CHECK.due("count(3)", x.count(3), kept);
            CHECK.due("count(4)", x.count(4), 0);
            CHECK.due("digest()", x.digest(), before);
            for (int number = 0; number < 5; number++) {
                CHECK.due("KIND of " + number, x.about(number, 0), number < kept ? 3 : WineByYears.UNKNOWN);
            }
            CHECK.due("bits of one who is gone", x.table(1 << kept), WineByYears.OUTSIDE);
            CHECK.due("another comes", x.person(0, 4), kept < 5 ? kept : WineByYears.FULL);
            if (kept < 5) {
                CHECK.due("BORN of him", x.about(kept, 1), 4);
                CHECK.due("how often he was ILL", x.about(kept, 3), 0);
            }
        }
    }

    private static void keepsHowOftenIll() {
        CHECK.words("how often each was ILL");
        WineByYears x = Check.peopled("0;09,09,09,09,09", "29", "29", "29", "29", "29");
        for (int person = 0; person < 5; person++) {
            for (int times = 0; times < person; times++) {
                x.drink(person, person);
            }
        }
        x.image();
        for (int person = 0; person < 5; person++) {
            x.drink(person, person);
            CHECK.due("ILL of " + person + " meanwhile", x.about(person, 3), person + 1);
        }
        x.restore();
        for (int person = 0; person < 5; person++) {
            CHECK.due("ILL of " + person, x.about(person, 3), person);
        }
        CHECK.due("ILL of all", x.count(4), 10);
    }

    private static void keepsTrials() {
        CHECK.words("An IMAGE keeps what is in each CASK, .. TRIALS");
        for (int kept = 0; kept <= 8; kept++) {
            WineByYears x = Check.cellarOf("0;31,71");
            for (int trial = 0; trial < kept; trial++) {
                x.trial(trial % 2, trial % 2 == 0);
            }
            int births = x.births(0);
            x.image();
            x.forget();
            for (int trial = 0; trial < 8; trial++) {
                x.trial(1, true);
            }
            x.restore();
            CHECK.due("count(5)", x.count(5), kept);
            CHECK.due("births(0)", x.births(0), births);
            CHECK.due("one more", x.trial(0, true), kept < 8 ? kept + 1 : WineByYears.FULL);
        }
    }

    private static void keepsNothingElse() {
        CHECK.words("restore: THE PAGE and how often a CELLAR was read are not kept");
        WineByYears x = Check.cellarOf("0;31,71");
        Check.write(x, "2;3");
        x.image();
        Check.write(x, "4,5");
        CHECK.due("restore()", x.restore(), 2);
        CHECK.due("letters", x.count(6), 6);
        CHECK.due("fault()", x.fault(), 6);
        x.blank();
        CHECK.due("restore()", x.restore(), 2);
        CHECK.due("letters", x.count(6), 0);
        CHECK.due("read", x.count(7), 1);
        CHECK.due("LAW", x.count(0), 0);
    }

    private static void oneTheLatest() {
        CHECK.words("An IMAGE is kept (one; the latest)");
        WineByYears x = Check.witches("0;39,79", 1);
        for (int left = 18; left > 9; left--) {
            CHECK.due("image()", x.image(), left);
            x.drink(0, 0);
        }
        CHECK.due("restore()", x.restore(), 10);
        CHECK.due("restore() again", x.restore(), 10);
        x.image();
        x.drink(0, 1);
        CHECK.due("restore() of one kept behind restore()", x.restore(), 10);
    }

    private static void imageTells() {
        CHECK.words("LITRES in all CASKS");
        CHECK.due("of empty ones", Check.cellarOf("0;30,70").image(), 0);
        CHECK.due("of five full digits", Check.cellarOf("0;09,19,29,39,49").image(), 45);
        WineByYears dry = Check.cellarOf("0;30,70");
        dry.image();
        CHECK.due("restore() of empty ones", dry.restore(), 0);
        WineByYears x = Check.busy();
        long before = x.digest();
        CHECK.due("image() of a busy one", x.image(), 4);
        CHECK.due("digest() behind image()", x.digest(), before);
        CHECK.due("restore() of it", x.restore(), 4);
        CHECK.due("digest() behind restore()", x.digest(), before);
    }

    private static void imageWithoutCellar() {
        CHECK.words("image: STATE: no CELLAR.");
        CHECK.unchanged("image()", WineByYears::new, WineByYears::image, WineByYears.STATE);
        CHECK.unchanged("image() with a page", () -> Check.pageOf("0;12,34"), WineByYears::image, WineByYears.STATE);
        WineByYears x = Check.pageOf("0;12,34");
        x.image();
        x.cellar();
        CHECK.due("restore() behind a refused image()", x.restore(), WineByYears.STATE);
    }

    private static void restoreAgain() {
        CHECK.words("It goes on from the IMAGE");
        WineByYears x = Check.busy();
        x.restore();
        long kept = x.digest();
        for (int times = 0; times < 3; times++) {
            x.person(1, times);
            x.drink(1, 0);
            x.pour(0, 1, 1);
            x.trial(0, false);
            CHECK.due("restore()", x.restore(), 5);
            CHECK.due("digest()", x.digest(), kept);
        }
        CHECK.due("the next one's number", x.person(4, 4), 2);
    }

    private static void restoreOfNone() {
        CHECK.words("STATE: none was kept");
        CHECK.unchanged("without a CELLAR", WineByYears::new, WineByYears::restore, WineByYears.STATE);
        CHECK.unchanged("with a page", () -> Check.pageOf("0;12,34"), WineByYears::restore, WineByYears.STATE);
        CHECK.unchanged("with a CELLAR", () -> Check.peopled("0;12,34", "00", "39"), WineByYears::restore,
            WineByYears.STATE);
    }

    /** A busy one, whose cellar is then read from the very text of the first one. */
    private static WineByYears another() {
        WineByYears x = Check.busy();
        x.blank();
        Check.write(x, "2;34,72,50");
        x.cellar();
        x.person(3, 3);
        x.drink(0, 0);
        return x;
    }

    private static void restoreOfAnother() {
        CHECK.words("or there is another CELLAR since");
        CHECK.unchanged("restore()", ImageEdgesTest::another, WineByYears::restore, WineByYears.STATE);
        WineByYears x = another();
        CHECK.due("image()", x.image(), 5);
        x.drink(0, 0);
        CHECK.due("restore() of this one's", x.restore(), 5);
        WineByYears refused = Check.busy();
        CHECK.due("a refused cellar()", refused.cellar(), WineByYears.STATE);
        CHECK.due("restore() behind it", refused.restore(), 5);
    }

    private static void count(WineByYears x, int what, int due) {
        CHECK.due("count(" + what + ")", x.count(what), due);
    }

    private static void countsAtTheirEdges() {
        CHECK.words("0 the LAW, 1 CASKS, 2 LITRES in all, 3 PEOPLE, 4 how often all were ILL, 5 TRIALS, "
            + "6 letters of THE PAGE, 7 how often a CELLAR was read");
        for (int law = 0; law < 4; law++) {
            count(Check.cellarOf(law + ";12,34"), 0, law);
        }
        for (int casks = 2; casks <= 5; casks++) {
            WineByYears x = Check.cellarOf("0;59,59,59,59,59".substring(0, 1 + 3 * casks));
            count(x, 1, casks);
            count(x, 2, 9 * casks);
        }
        count(Check.cellarOf("0;50,60"), 2, 0);
        WineByYears ill = Check.peopled("0;09,09,09,09,09", "29", "29", "29", "29", "29");
        for (int times = 0; times < 45; times++) {
            count(ill, 4, times);
            ill.drink(times % 5, times / 9);
        }
        count(ill, 4, 45);
        count(ill, 3, 5);
        WineByYears read = new WineByYears();
        for (int times = 1; times <= 40; times++) {
            Check.write(read, "0;12,34");
            count(read, 6, 7);
            read.cellar();
            count(read, 7, times);
        }
        int[] busy = {2, 3, 4, 3, 2, 3, 3, 1};
        for (int what = 0; what < 8; what++) {
            int asked = what;
            CHECK.unchanged("count(" + what + ") of a busy one", Check::busy, x -> x.count(asked), busy[what]);
        }
    }

    private static void countOutside() {
        CHECK.words("count: OUTSIDE.");
        for (int what : Check.beyond(0, 7)) {
            CHECK.unchanged("count(" + what + ")", Check::busy, x -> x.count(what), WineByYears.OUTSIDE);
            CHECK.unchanged("count(" + what + ")", WineByYears::new, x -> x.count(what), WineByYears.OUTSIDE);
        }
    }

    /** 863, then 31 times it and each number, without an end; a long keeps its last 64 bits. */
    private static BigInteger endless(List<Integer> numbers) {
        BigInteger h = BigInteger.valueOf(863);
        for (int number : numbers) {
            h = h.multiply(BigInteger.valueOf(31)).add(BigInteger.valueOf(number));
        }
        return h;
    }

    /** All that the digest is of, in its order, by calls of the object. */
    private static List<Integer> numbers(WineByYears x, String page) {
        List<Integer> all = new ArrayList<>();
        for (int cask = 0; cask < x.count(1); cask++) {
            for (int what = 0; what <= 3; what++) {
                all.add(x.cask(cask, what));
            }
            for (int what = 10; what <= 19; what++) {
                all.add(x.cask(cask, what));
            }
        }
        for (int person = 0; person < x.count(3); person++) {
            for (int what = 0; what <= 3; what++) {
                all.add(x.about(person, what));
            }
        }
        if (x.count(1) > 0) {
            int everybody = (1 << x.count(3)) - 1;
            all.add(x.table(everybody));
            all.add(x.blend(everybody, 5, 0));
            all.add(x.blend(everybody, 5, 1));
            for (int kind = 0; kind < 5; kind++) {
                all.add(x.births(kind));
                all.add(x.ask(kind));
            }
        }
        page.chars().forEach(all::add);
        for (int what = 0; what < 8; what++) {
            all.add(x.count(what));
        }
        return all;
    }

    private static BigInteger digest(WineByYears x, String page, int howMany) {
        List<Integer> numbers = numbers(x, page);
        CHECK.due("how many numbers", numbers.size(), howMany);
        BigInteger due = endless(numbers);
        CHECK.due("digest() with '" + page + "'", x.digest(), due.longValue());
        return due;
    }

    private static void digestWithoutCellar() {
        CHECK.words("h is 863, then for each of these numbers, in order, 31 times h, and it");
        long due = 863;
        for (int number = 0; number < 8; number++) {
            due *= 31;
        }
        CHECK.due("digest() of eight times 0", new WineByYears().digest(), due);
        // The eight counts are all 0 but for one letter, two numbers ahead of the end.
        long one = 863L * 31 + 32;
        for (int number = 0; number < 8; number++) {
            one = one * 31 + (number == 6 ? 1 : 0);
        }
        CHECK.due("digest() of one letter", Check.pageOf(" ").digest(), one);
    }

    private static void digestWraps() {
        CHECK.words("(as longs, wrapping)");
        BigInteger most = BigInteger.valueOf(Long.MAX_VALUE);
        for (int letters = 0; letters <= 18; letters++) {
            String page = "~".repeat(letters);
            BigInteger due = digest(Check.pageOf(page), page, 8 + letters);
            CHECK.due("beyond the greatest long, " + letters + " letters", due.compareTo(most) > 0 ? 1 : 0,
                letters < 3 ? 0 : 1);
        }
        int below = 0;
        for (char sign = 32; sign <= 126; sign++) {
            String page = "" + sign + sign + sign + sign;
            digest(Check.pageOf(page), page, 12);
            below += Check.pageOf(page).digest() < 0 ? 1 : 0;
        }
        CHECK.due("some are below 0, some are not", below > 10 && below < 85 ? 1 : 0, 1);
    }

    private static void digestOfAll() {
        CHECK.words("of each CASK what cask() tells for 0 to 3 and 10 to 19; "
            + "of each PERSON what about() tells for 0 to 3");
        WineByYears x = Check.peopled("3;19,28,37,46,55", "01", "12", "23", "34", "45");
        for (int person = 0; person < 5; person++) {
            x.drink(person, 4 - person);
            x.drink(person, person);
        }
        x.pour(0, 1, 5);
        x.pour(4, 1, 3);
        for (int trial = 0; trial < 8; trial++) {
            x.trial(trial % 5, trial % 3 == 0);
        }
        Check.write(x, LONGEST_PAGE);
        digest(x, LONGEST_PAGE, 5 * 14 + 5 * 4 + 3 + 10 + 18 + 8);
        digest(Check.busy(), "1;2", 3 * 14 + 3 * 4 + 3 + 10 + 3 + 8);
    }

    private static void digestOfLeast() {
        CHECK.words("with a CELLAR TABLE of all PEOPLE, what blend() tells of all PEOPLE and 5 for 0 and 1");
        digest(Check.cellarOf("0;00,00"), "", 2 * 14 + 3 + 10 + 8);
        digest(Check.cellarOf("0;04,14"), "", 2 * 14 + 3 + 10 + 8);
        digest(Check.cellarOf("0;05,14"), "", 2 * 14 + 3 + 10 + 8);
        digest(Check.cellarOf("0;02,12"), "", 2 * 14 + 3 + 10 + 8);
        digest(Check.witches("0;06,16", 5), "", 2 * 14 + 20 + 3 + 10 + 8);
        digest(Check.peopled("0;06,16", "09"), "", 2 * 14 + 4 + 3 + 10 + 8);
    }
}
