import java.util.function.Supplier;

/** The edges of a cellar's text ("What it is") and of promises 1 to 5. */
final class PageEdgesTest {
    private static final Check CHECK = new Check();
    private static final String WHOLE = "0;00,00,00,00,00";
    private static final String LONGEST_PAGE = "3;19,28,37,46,55,6";

    public static void main(String[] args) {
        laws();
        howManyCasks();
        caskNumbers();
        years();
        litres();
        signsBetween();
        lastCall();
        newObjectTells();
        newObjectRefuses();
        letterCodes();
        letterFull();
        letterRefusals();
        blanks();
        blankLeavesTheRest();
        faultsAtEachPlace();
        faultIsTheFirst();
        faultOfNone();
        cellarByLength();
        cellarEmptiesThePage();
        cellarRefused();
        anotherIsGone();
        CHECK.end();
    }

    private static boolean isDigit(char sign, char greatest) {
        return sign >= '0' && sign <= greatest;
    }

    private static String withSign(String text, int place, char sign) {
        return text.substring(0, place) + sign + text.substring(place + 1);
    }

    /** Every sign that a page can have there, in a text that is else a cellar: some are, the others are none. */
    private static void eachSign(String text, int place, String allowed, int what) {
        for (char sign = 32; sign <= 126; sign++) {
            String told = withSign(text, place, sign);
            WineByYears x = Check.pageOf(told);
            boolean is = allowed.indexOf(sign) >= 0;
            CHECK.due("fault() of " + told, x.fault(), is ? told.length() : place);
            CHECK.due("cellar() of " + told, x.cellar(), is ? told.length() / 3 : WineByYears.STATE);
            if (is && isDigit(sign, '9')) {
                int got = place == 0 ? x.count(0) : x.cask((place - 2) / 3, what);
                CHECK.due("what '" + sign + "' tells in " + told, got, sign - '0');
            }
        }
    }

    private static void laws() {
        CHECK.words("a digit LAW (0 to 3)");
        eachSign("0;19,28", 0, "0123", 0);
        eachSign("0;19,28,37,46,55", 0, "0123", 0);
    }

    private static void howManyCasks() {
        CHECK.words("two to five CASKS");
        String[] texts = {"0;11", "0;11,22", "0;11,22,33", "0;11,22,33,44", "0;11,22,33,44,55"};
        for (int casks = 1; casks <= 5; casks++) {
            WineByYears x = Check.pageOf(texts[casks - 1]);
            CHECK.due("cellar() of " + casks, x.cellar(), casks == 1 ? WineByYears.STATE : casks);
            CHECK.due("count(1) of " + casks, x.count(1), casks == 1 ? 0 : casks);
        }
        CHECK.due("cellar() of no cask", Check.pageOf("0;").cellar(), WineByYears.STATE);
        WineByYears six = Check.pageOf("0;11,22,33,44,55,6");
        CHECK.due("a sixth cask's fault()", six.fault(), 16);
        CHECK.due("a sixth cask's cellar()", six.cellar(), WineByYears.STATE);
    }

    private static void caskNumbers() {
        CHECK.words("(numbered from 0)");
        WineByYears two = Check.cellarOf("0;11,22");
        WineByYears five = Check.cellarOf("0;11,22,33,44,55");
        for (int cask = 0; cask < 5; cask++) {
            CHECK.due("cask " + cask + " of five", five.cask(cask, 0), cask + 1);
            CHECK.due("cask " + cask + " of two", two.cask(cask, 0), cask < 2 ? cask + 1 : WineByYears.UNKNOWN);
        }
        CHECK.due("cask 5 of five", five.cask(5, 0), WineByYears.UNKNOWN);
        CHECK.due("cask -1 of five", five.cask(-1, 0), WineByYears.UNKNOWN);
    }

    private static void years() {
        CHECK.words("its YEAR (0 to 9)");
        eachSign("0;11,11", 2, "0123456789", 1);
        eachSign("0;11,11", 5, "0123456789", 1);
        eachSign("3;11,11,11,11,11", 14, "0123456789", 1);
    }

    private static void litres() {
        CHECK.words("a digit LITRES (0 to 9)");
        eachSign("0;11,11", 3, "0123456789", 0);
        eachSign("0;11,11", 6, "0123456789", 0);
        eachSign("3;11,11,11,11,11", 15, "0123456789", 0);
    }

    private static void signsBetween() {
        CHECK.words("\";\" and two to five CASKS");
        eachSign(WHOLE, 1, ";", 0);
        CHECK.words("with \",\" between");
        for (int place = 4; place <= 13; place += 3) {
            eachSign(WHOLE, place, ",", 0);
        }
        CHECK.due("a ',' behind the last", Check.pageOf("0;11,22,").cellar(), WineByYears.STATE);
        CHECK.due("none between", Check.pageOf("0;1122").cellar(), WineByYears.STATE);
    }

    private static void lastCall() {
        CHECK.words("at most 512 calls after it has been made");
        WineByYears page = new WineByYears();
        for (int call = 1; call <= 512; call++) {
            CHECK.due("call " + call + ", letter(48)", page.letter(48), call <= 18 ? call : WineByYears.FULL);
        }
        WineByYears read = new WineByYears();
        for (int times = 1; times <= 64; times++) {
            Check.write(read, "0;12,34");
            CHECK.due("call " + 8 * times + ", cellar()", read.cellar(), 2);
        }
        WineByYears drunk = Check.peopled("0;12,34", "29");
        drunk.image();
        for (int call = 11; call <= 511; call += 2) {
            CHECK.due("call " + call + ", drink(0, 1)", drunk.drink(0, 1), 1);
            CHECK.due("call " + (call + 1) + ", restore()", drunk.restore(), 6);
        }
    }

    private static void newObjectTells() {
        CHECK.words("No CELLAR.");
        Supplier<WineByYears> made = WineByYears::new;
        for (int what = 0; what < 8; what++) {
            int asked = what;
            CHECK.unchanged("count(" + what + ")", made, x -> x.count(asked), 0);
        }
        CHECK.unchanged("blank()", made, WineByYears::blank, 0);
        CHECK.unchanged("fault()", made, WineByYears::fault, 0);
        CHECK.unchanged("forget()", made, WineByYears::forget, 0);
        long due = 863;
        for (int number = 0; number < 8; number++) {
            due *= 31;
        }
        CHECK.unchanged("digest()", made, WineByYears::digest, due);
        CHECK.due("letter(32)", new WineByYears().letter(32), 1);
    }

    private static void newObjectRefuses() {
        CHECK.words("No CELLAR.");
        Supplier<WineByYears> made = WineByYears::new;
        CHECK.unchanged("cellar()", made, WineByYears::cellar, WineByYears.STATE);
        CHECK.unchanged("cask(0, 0)", made, x -> x.cask(0, 0), WineByYears.UNKNOWN);
        CHECK.unchanged("person(0, 0)", made, x -> x.person(0, 0), WineByYears.STATE);
        CHECK.unchanged("about(0, 0)", made, x -> x.about(0, 0), WineByYears.UNKNOWN);
        CHECK.unchanged("as(0, 0)", made, x -> x.as(0, 0), WineByYears.UNKNOWN);
        CHECK.unchanged("drink(0, 0)", made, x -> x.drink(0, 0), WineByYears.UNKNOWN);
        CHECK.unchanged("pour(0, 1, 1)", made, x -> x.pour(0, 1, 1), WineByYears.UNKNOWN);
        CHECK.unchanged("table(0)", made, x -> x.table(0), WineByYears.STATE);
        CHECK.unchanged("blend(0, 0, 0)", made, x -> x.blend(0, 0, 0), WineByYears.STATE);
        CHECK.unchanged("top(0, 0, 0)", made, x -> x.top(0, 0, 0), WineByYears.UNKNOWN);
        CHECK.unchanged("trial(0, true)", made, x -> x.trial(0, true), WineByYears.UNKNOWN);
        CHECK.unchanged("births(0)", made, x -> x.births(0), WineByYears.STATE);
        CHECK.unchanged("ask(0)", made, x -> x.ask(0), WineByYears.STATE);
        CHECK.unchanged("topped(0, 0, 0)", made, x -> x.topped(0, 0, 0), WineByYears.UNKNOWN);
        CHECK.unchanged("feasts(1, 0, 0)", made, x -> x.feasts(1, 0, 0), WineByYears.STATE);
        CHECK.unchanged("image()", made, WineByYears::image, WineByYears.STATE);
        CHECK.unchanged("restore()", made, WineByYears::restore, WineByYears.STATE);
    }

    private static void letterCodes() {
        CHECK.words("OUTSIDE: code (32 to 126)");
        for (int code = -1; code <= 300; code++) {
            boolean is = code >= 32 && code <= 126;
            CHECK.due("letter(" + code + ")", new WineByYears().letter(code), is ? 1 : WineByYears.OUTSIDE);
        }
        int[] wrong = {31, 127, Integer.MIN_VALUE, Integer.MAX_VALUE, 65536 + 48, Integer.MIN_VALUE + 48};
        for (int code : wrong) {
            CHECK.unchanged("letter(" + code + ")", WineByYears::new, x -> x.letter(code), WineByYears.OUTSIDE);
            CHECK.unchanged("busy letter(" + code + ")", Check::busy, x -> x.letter(code), WineByYears.OUTSIDE);
        }
    }

    private static void letterFull() {
        CHECK.words("FULL: above 18");
        WineByYears x = new WineByYears();
        for (int letters = 1; letters <= 18; letters++) {
            CHECK.due("letter " + letters, x.letter(letters % 2 == 0 ? 32 : 126), letters);
            CHECK.due("count(6)", x.count(6), letters);
        }
        for (int code : new int[] {32, 48, 126}) {
            CHECK.unchanged("the nineteenth, " + code, PageEdgesTest::fullPage, y -> y.letter(code), WineByYears.FULL);
        }
        WineByYears again = fullPage();
        again.blank();
        CHECK.due("a letter when there is room again", again.letter(48), 1);
    }

    private static WineByYears fullPage() {
        WineByYears x = Check.busy();
        x.blank();
        Check.write(x, LONGEST_PAGE);
        return x;
    }

    private static void letterRefusals() {
        CHECK.words("letter: OUTSIDE ahead of FULL");
        for (int code : Check.beyond(32, 126)) {
            CHECK.unchanged("the nineteenth, " + code, PageEdgesTest::fullPage, x -> x.letter(code),
                WineByYears.OUTSIDE);
        }
    }

    private static void blanks() {
        CHECK.words("THE PAGE is empty: how many letters it had.");
        for (int letters = 0; letters <= 18; letters++) {
            WineByYears x = Check.pageOf(LONGEST_PAGE.substring(0, letters));
            CHECK.due("blank() of " + letters, x.blank(), letters);
            CHECK.due("count(6) then", x.count(6), 0);
            CHECK.due("fault() then", x.fault(), 0);
            CHECK.due("blank() again", x.blank(), 0);
            CHECK.due("digest() then", x.digest(), new WineByYears().digest());
            CHECK.due("the first letter then", x.letter('0'), 1);
            CHECK.due("fault() of it", x.fault(), 1);
        }
    }

    private static void blankLeavesTheRest() {
        CHECK.words("THE PAGE is empty: how many letters it had.");
        WineByYears x = Check.busy();
        int[] before = new int[8];
        for (int what = 0; what < 8; what++) {
            before[what] = x.count(what);
        }
        CHECK.due("blank()", x.blank(), 3);
        for (int what = 0; what < 8; what++) {
            CHECK.due("count(" + what + ") behind blank()", x.count(what), what == 6 ? 0 : before[what]);
        }
        Check.write(x, "1;2");
        CHECK.due("digest() with the letters again", x.digest(), Check.busy().digest());
        CHECK.due("restore() behind blank()", x.restore(), 5);
    }

    private static void faultsAtEachPlace() {
        CHECK.words("The place (from 0) of the first letter of THE PAGE that no CELLAR has there");
        for (int place = 0; place < 18; place++) {
            String ahead = place <= 16 ? WHOLE.substring(0, place) : WHOLE + ",";
            for (char sign = 32; sign <= 126; sign++) {
                boolean digit = isDigit(sign, place == 0 ? '3' : '9');
                boolean is = place == 1 ? sign == ';' : place % 3 == 1 ? sign == ',' : digit;
                int due = place >= 16 ? 16 : is ? place + 1 : place;
                CHECK.due("fault() of " + ahead + sign, Check.pageOf(ahead + sign).fault(), due);
            }
        }
    }

    private static void faultIsTheFirst() {
        CHECK.words("behind those ahead of it");
        String[] wrong = {"4;::", "0::,", "0;:a", "0;0:;", "0;00;;", "0;00,,,", "/",
            "0;00,00,00,00,00,0", "0;00,00,0, "};
        int[] due = {0, 1, 2, 3, 4, 5, 0, 16, 9};
        for (int i = 0; i < wrong.length; i++) {
            String text = wrong[i];
            CHECK.unchanged("fault() of " + text, () -> Check.pageOf(text), WineByYears::fault, due[i]);
        }
    }

    private static void faultOfNone() {
        CHECK.words("how many letters it has, if there is none");
        for (int letters = 0; letters <= 16; letters++) {
            for (String text : new String[] {WHOLE, "3;99,99,99,99,99"}) {
                String page = text.substring(0, letters);
                CHECK.unchanged("fault() of '" + page + "'", () -> Check.pageOf(page), WineByYears::fault, letters);
            }
        }
        CHECK.unchanged("fault() of a busy one", Check::busy, WineByYears::fault, 3);
    }

    private static void cellarByLength() {
        CHECK.words("THE PAGE is read as THE CELLAR");
        for (int letters = 0; letters <= 18; letters++) {
            String page = LONGEST_PAGE.substring(0, letters);
            boolean is = letters == 7 || letters == 10 || letters == 13 || letters == 16;
            if (is) {
                CHECK.due("cellar() of '" + page + "'", Check.pageOf(page).cellar(), letters / 3);
            } else {
                CHECK.unchanged("cellar() of '" + page + "'", () -> Check.pageOf(page), WineByYears::cellar,
                    WineByYears.STATE);
            }
        }
    }

    private static void cellarEmptiesThePage() {
        CHECK.words("how many CASKS; THE PAGE is empty then");
        for (int casks = 2; casks <= 5; casks++) {
            WineByYears x = Check.pageOf(WHOLE.substring(0, 1 + 3 * casks));
            CHECK.due("cellar()", x.cellar(), casks);
            CHECK.due("count(6)", x.count(6), 0);
            CHECK.due("fault()", x.fault(), 0);
            CHECK.due("blank()", x.blank(), 0);
            CHECK.due("cellar() again", x.cellar(), WineByYears.STATE);
            CHECK.due("count(7)", x.count(7), 1);
            CHECK.due("a letter", x.letter('0'), 1);
        }
    }

    private static void cellarRefused() {
        CHECK.words("STATE: it is none.");
        String[] none = {"", "0", "0;", "0;1", "0;12", "0;12,", "0;12,3", "0;12,34,", "0;12,34,5", "4;12,34", "/;12,34",
            "0:12,34", "0;12;34", "0;:2,34", "0;1:,34", "0;12,/4", "0;12,3/", " 0;12,34", "0;12,34 ",
            "0;12,34,56,78,90,", "0;12,34,56,78,90,1", "0;12,34,56,78,901"};
        for (String text : none) {
            CHECK.unchanged("cellar() of '" + text + "'", () -> Check.pageOf(text), WineByYears::cellar,
                WineByYears.STATE);
            CHECK.unchanged("cellar() of '" + text + "' behind another", () -> busyWith(text), WineByYears::cellar,
                WineByYears.STATE);
        }
    }

    private static WineByYears busyWith(String page) {
        WineByYears x = Check.busy();
        x.blank();
        Check.write(x, page);
        return x;
    }

    private static void anotherIsGone() {
        CHECK.words("(another one is gone, with PEOPLE, TRIALS)");
        WineByYears x = busyWith("1;00,91");
        CHECK.due("cellar()", x.cellar(), 2);
        int[] due = {1, 2, 1, 0, 0, 0, 0, 2};
        for (int what = 0; what < 8; what++) {
            CHECK.due("count(" + what + ")", x.count(what), due[what]);
        }
        WineByYears fresh = Check.cellarOf("1;00,91");
        Check.write(fresh, "1;00,91");
        fresh.cellar();
        CHECK.due("digest() of one that never had another", x.digest(), fresh.digest());
        CHECK.due("a cask of the other", x.cask(2, 0), WineByYears.UNKNOWN);
        CHECK.due("a person of the other", x.about(0, 0), WineByYears.UNKNOWN);
        CHECK.due("births() without TRIALS", x.births(0), 1023);
        CHECK.due("forget()", x.forget(), 0);
        CHECK.due("restore()", x.restore(), WineByYears.STATE);
        CHECK.due("the first person", x.person(2, 9), 0);
        CHECK.due("how often he was ILL", x.about(0, 3), 0);
        CHECK.due("the first trial", x.trial(1, false), 1);
        CHECK.due("births() of it", x.births(0), 511);
    }
}
