/** Promises 21 to 24: image, restore, count, digest. */
final class ImageTest {
    private static final Check CHECK = new Check();

    public static void main(String[] args) {
        images();
        latestImage();
        imageOfAnotherCellar();
        counts();
        digests();
        CHECK.end();
    }

    private static void images() {
        WineByYears x = Check.cellarOf("2;34,72,50");
        CHECK.due("restore() of none", x.restore(), WineByYears.STATE);
        x.person(0, 3);
        x.person(2, 9);
        x.drink(1, 0);
        x.trial(0, true);
        x.trial(1, false);
        long before = x.digest();
        CHECK.due("image()", x.image(), 5);
        CHECK.due("image() changes nothing", x.digest(), before);
        x.pour(0, 2, 2);
        x.drink(1, 2);
        x.person(4, 4);
        x.drink(2, 2);
        CHECK.due("ILL of who came since", x.about(2, 3), 1);
        x.forget();
        x.trial(2, true);
        x.trial(2, true);
        x.trial(2, false);
        CHECK.due("restore()", x.restore(), 5);
        CHECK.due("all is as it was", x.digest(), before);
        CHECK.due("who came since is gone", x.about(2, 0), WineByYears.UNKNOWN);
        CHECK.due("another comes in his place", x.person(1, 7), 2);
        CHECK.due("KIND of him", x.about(2, 0), 1);
        CHECK.due("ILL of him", x.about(2, 3), 0);
        CHECK.due("restore() again", x.restore(), 5);
        CHECK.due("all is as it was again", x.digest(), before);
        x.letter(65);
        CHECK.due("restore() with a letter", x.restore(), 5);
        CHECK.due("restore() leaves the page", x.count(6), 1);
    }

    private static void latestImage() {
        WineByYears x = Check.cellarOf("0;34,72");
        x.person(3, 0);
        CHECK.due("image()", x.image(), 6);
        x.drink(0, 0);
        CHECK.due("a later image()", x.image(), 5);
        x.drink(0, 0);
        CHECK.due("restore() of the latest", x.restore(), 5);
        CHECK.due("image() without a cellar", new WineByYears().image(), WineByYears.STATE);
    }

    private static void imageOfAnotherCellar() {
        WineByYears x = Check.cellarOf("0;34,72");
        x.image();
        Check.write(x, "0;34,7");
        CHECK.due("no cellar", x.cellar(), WineByYears.STATE);
        CHECK.due("restore() behind a refused cellar()", x.restore(), 6);
        x.letter('2');
        CHECK.due("the same cellar again", x.cellar(), 2);
        long before = x.digest();
        CHECK.refused("restore()", x.restore(), WineByYears.STATE, before, x.digest());
        x.image();
        CHECK.due("restore() of an image of this one", x.restore(), 6);
    }

    private static void counts() {
        WineByYears x = Check.cellarOf("3;34,72,50");
        x.person(2, 9);
        x.person(2, 8);
        x.drink(0, 0);
        x.drink(1, 1);
        x.drink(1, 1);
        x.trial(0, true);
        Check.write(x, "abcd");
        int[] due = {3, 3, 3, 2, 3, 1, 4, 1};
        for (int what = 0; what < due.length; what++) {
            CHECK.due("count(" + what + ")", x.count(what), due[what]);
        }
        for (int what : new int[] {-1, 8, Integer.MIN_VALUE, Integer.MAX_VALUE}) {
            CHECK.due("count(" + what + ")", x.count(what), WineByYears.OUTSIDE);
        }
    }

    private static void digests() {
        WineByYears none = new WineByYears();
        long h = 863;
        for (int i = 0; i < 8; i++) {
            h *= 31;
        }
        CHECK.due("digest() of a new one", none.digest(), h);
        none.letter(65);
        none.letter(66);
        h = (863L * 31 + 65) * 31 + 66;
        for (int what = 0; what < 8; what++) {
            h = 31 * h + (what == 6 ? 2 : 0);
        }
        CHECK.due("digest() of two letters", none.digest(), h);
        WineByYears five = Check.cellarOf("2;35,72");
        CHECK.due("digest() of a cask of just 5", five.digest(), byCalls(five, ""));
        WineByYears x = Check.cellarOf("2;34,72,50,98");
        CHECK.due("digest() without people", x.digest(), byCalls(x, ""));
        for (int kind = 0; kind < 5; kind++) {
            x.person(kind, 4 + kind);
        }
        CHECK.due("digest() with people", x.digest(), byCalls(x, ""));
        x.drink(0, 0);
        x.pour(1, 0, 2);
        x.trial(0, true);
        Check.write(x, "1;2");
        CHECK.due("digest() with a page", x.digest(), byCalls(x, "1;2"));
    }

    private static long byCalls(WineByYears x, String page) {
        long h = 863;
        for (int cask = 0; cask < x.count(1); cask++) {
            for (int what = 0; what < 20; what = what == 3 ? 10 : what + 1) {
                h = 31 * h + x.cask(cask, what);
            }
        }
        for (int person = 0; person < x.count(3); person++) {
            for (int what = 0; what < 4; what++) {
                h = 31 * h + x.about(person, what);
            }
        }
        int all = (1 << x.count(3)) - 1;
        h = 31 * h + x.table(all);
        h = 31 * h + x.blend(all, 5, 0);
        h = 31 * h + x.blend(all, 5, 1);
        for (int kind = 0; kind < 5; kind++) {
            h = 31 * h + x.births(kind);
            h = 31 * h + x.ask(kind);
        }
        for (int i = 0; i < page.length(); i++) {
            h = 31 * h + page.charAt(i);
        }
        for (int what = 0; what < 8; what++) {
            h = 31 * h + x.count(what);
        }
        return h;
    }
}
