/** Promises 1 to 5: a new object, letter, blank, fault, cellar. */
final class PageTest {
    private static final Check CHECK = new Check();

    public static void main(String[] args) {
        newObject();
        letters();
        blanks();
        faults();
        cellars();
        cellarsAgain();
        CHECK.end();
    }

    private static void newObject() {
        WineByYears x = new WineByYears();
        for (int what = 0; what < 8; what++) {
            CHECK.due("new: count(" + what + ")", x.count(what), 0);
        }
        CHECK.due("new: cask(0, 0)", x.cask(0, 0), WineByYears.UNKNOWN);
        CHECK.due("new: about(0, 0)", x.about(0, 0), WineByYears.UNKNOWN);
        CHECK.due("new: fault()", x.fault(), 0);
        CHECK.due("new: blank()", x.blank(), 0);
        CHECK.due("new: cellar()", x.cellar(), WineByYears.STATE);
        CHECK.due("new: forget()", x.forget(), 0);
        CHECK.due("new: image()", x.image(), WineByYears.STATE);
        CHECK.due("new: restore()", x.restore(), WineByYears.STATE);
    }

    private static void letters() {
        WineByYears x = new WineByYears();
        int[] wrong = {31, 127, 0, -1, 200, Integer.MIN_VALUE, Integer.MAX_VALUE};
        for (int code : wrong) {
            CHECK.due("letter(" + code + ")", x.letter(code), WineByYears.OUTSIDE);
        }
        CHECK.due("count(6) after wrong letters", x.count(6), 0);
        for (int i = 1; i <= 18; i++) {
            CHECK.due("letter " + i, x.letter(i % 2 == 0 ? 32 : 126), i);
        }
        CHECK.due("the nineteenth letter", x.letter(48), WineByYears.FULL);
        CHECK.due("a wrong nineteenth letter", x.letter(31), WineByYears.OUTSIDE);
        CHECK.due("count(6) when full", x.count(6), 18);
    }

    private static void blanks() {
        WineByYears x = new WineByYears();
        Check.write(x, "0;12,34");
        CHECK.due("blank()", x.blank(), 7);
        CHECK.due("blank() again", x.blank(), 0);
        CHECK.due("cellar() of a blank page", x.cellar(), WineByYears.STATE);
        CHECK.due("letter after blank()", x.letter(51), 1);
        for (int i = 0; i < 30; i++) {
            x.letter(33);
        }
        CHECK.due("blank() of a full page", x.blank(), 18);
    }

    private static void fault(String text, int due) {
        WineByYears x = new WineByYears();
        Check.write(x, text);
        CHECK.due("fault() of '" + text + "'", x.fault(), due);
        CHECK.due("letters behind fault()", x.count(6), text.length());
    }

    private static void faults() {
        fault("0", 1);
        fault("3", 1);
        fault("4", 0);
        fault("/", 0);
        fault(";", 0);
        fault("0;", 2);
        fault("0,", 1);
        fault("0:", 1);
        fault("0;0", 3);
        fault("0;:", 2);
        fault("0;/", 2);
        fault("0;90", 4);
        fault("0;9a", 3);
        fault("0;90;", 4);
        fault("0;900", 4);
        fault("0;90,", 5);
        fault("0;90,,", 5);
        fault("0;90,99,00,11,22", 16);
        fault("0;90,99,00,11,22,", 16);
        fault("0;90,99,00,11,22,3", 16);
        fault("0;90,99,00,11,220", 16);
        fault("9;90,99,00,11,22,3", 0);
        fault("0;90,99,00,11,2 ,3", 15);
    }

    private static void cellar(String text, int due) {
        WineByYears x = new WineByYears();
        Check.write(x, text);
        CHECK.due("cellar() of '" + text + "'", x.cellar(), due);
        boolean read = due > 0;
        CHECK.due("letters behind it", x.count(6), read ? 0 : text.length());
        CHECK.due("count(7) behind it", x.count(7), read ? 1 : 0);
        CHECK.due("count(1) behind it", x.count(1), read ? due : 0);
    }

    private static void cellars() {
        cellar("", WineByYears.STATE);
        cellar("0", WineByYears.STATE);
        cellar("0;", WineByYears.STATE);
        cellar("0;12", WineByYears.STATE);
        cellar("0;12,", WineByYears.STATE);
        cellar("0;12,3", WineByYears.STATE);
        cellar("0;12,34", 2);
        cellar("4;12,34", WineByYears.STATE);
        cellar("0;12,34,", WineByYears.STATE);
        cellar("0;12,34,5", WineByYears.STATE);
        cellar("1;12,34,56", 3);
        cellar("2;12,34,56,78", 4);
        cellar("3;12,34,56,78,90", 5);
        cellar("3;12,34,56,78,90,", WineByYears.STATE);
        cellar("3;12,34,56,78,90,1", WineByYears.STATE);
        cellar("3;12;34", WineByYears.STATE);
    }

    private static void cellarsAgain() {
        WineByYears x = Check.cellarOf("3;19,28,37,46,55");
        CHECK.due("LITRES of five casks", x.count(2), 35);
        x.person(0, 1);
        x.person(2, 9);
        x.drink(1, 0);
        x.drink(0, 0);
        CHECK.due("ILL of the first one", x.about(0, 3), 1);
        x.trial(4, true);
        x.image();
        Check.write(x, "0;12");
        long before = x.digest();
        CHECK.refused("cellar() of half a text", x.cellar(), WineByYears.STATE, before, x.digest());
        Check.write(x, ",00");
        CHECK.due("another cellar()", x.cellar(), 2);
        int[] due = {0, 2, 2, 0, 0, 0, 0, 2};
        for (int what = 0; what < due.length; what++) {
            CHECK.due("another cellar: count(" + what + ")", x.count(what), due[what]);
        }
        CHECK.due("a cask of the first cellar", x.cask(2, 0), WineByYears.UNKNOWN);
        CHECK.due("LITRES of year 1", x.cask(0, 11), 2);
        CHECK.due("LITRES of an empty cask", x.cask(1, 0), 0);
        CHECK.due("an image of the first cellar", x.restore(), WineByYears.STATE);
        CHECK.due("births() without TRIALS", x.births(0), 1023);
        x.person(3, 3);
        CHECK.due("ILL of the first one who comes", x.about(0, 3), 0);
    }
}
