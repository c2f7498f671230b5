/** Promises 7 to 11: person, about, as, drink, pour. */
final class PeopleTest {
    private static final Check CHECK = new Check();
    private static final int[] NO_CASK = {-1, 3, Integer.MIN_VALUE, Integer.MAX_VALUE};

    public static void main(String[] args) {
        persons();
        abouts();
        casts();
        drinks();
        drinksWrong();
        pours();
        poursWrong();
        CHECK.end();
    }

    private static void persons() {
        WineByYears none = new WineByYears();
        CHECK.due("person(0, 0) without a cellar", none.person(0, 0), WineByYears.STATE);
        CHECK.due("person(5, 0) without a cellar", none.person(5, 0), WineByYears.OUTSIDE);
        WineByYears x = Check.cellarOf("0;51,50");
        int[][] wrong = {{-1, 0}, {5, 0}, {0, -1}, {0, 10}, {Integer.MAX_VALUE, 0}, {0, Integer.MIN_VALUE}};
        for (int[] w : wrong) {
            CHECK.due("person(" + w[0] + ", " + w[1] + ")", x.person(w[0], w[1]), WineByYears.OUTSIDE);
        }
        for (int person = 0; person < 5; person++) {
            CHECK.due("person " + person, x.person(4 - person, 9 - person), person);
        }
        long before = x.digest();
        CHECK.refused("a sixth person", x.person(0, 0), WineByYears.FULL, before, x.digest());
        CHECK.due("a wrong sixth person", x.person(0, 10), WineByYears.OUTSIDE);
        CHECK.due("count(3)", x.count(3), 5);
        for (int person = 0; person < 5; person++) {
            CHECK.due("KIND of " + person, x.about(person, 0), 4 - person);
            CHECK.due("BORN of " + person, x.about(person, 1), 9 - person);
        }
    }

    private static void abouts() {
        WineByYears x = Check.cellarOf("0;33,50,72");
        x.person(0, 3);
        x.person(1, 3);
        CHECK.due("CASKS of a GUEST", x.about(0, 2), 4);
        CHECK.due("CASKS of a WIDOW", x.about(1, 2), 5);
        CHECK.due("ILL at first", x.about(0, 3), 0);
        x.drink(0, 0);
        x.drink(0, 0);
        x.drink(1, 0);
        CHECK.due("ILL of a GUEST", x.about(0, 3), 2);
        CHECK.due("ILL of a WIDOW", x.about(1, 3), 0);
        CHECK.due("CASKS of a WIDOW when one is drunk up", x.about(1, 2), 4);
        for (int person : new int[] {-1, 2, 5, Integer.MIN_VALUE, Integer.MAX_VALUE}) {
            CHECK.due("about(" + person + ", 0)", x.about(person, 0), WineByYears.UNKNOWN);
            CHECK.due("about(" + person + ", 4)", x.about(person, 4), WineByYears.UNKNOWN);
        }
        for (int what : new int[] {-1, 4, Integer.MIN_VALUE, Integer.MAX_VALUE}) {
            CHECK.due("about(0, " + what + ")", x.about(0, what), WineByYears.OUTSIDE);
        }
    }

    private static void casts() {
        WineByYears x = Check.cellarOf("0;33,50,72");
        for (int kind = 0; kind < 5; kind++) {
            x.person(kind, 0);
        }
        for (int person = 0; person < 5; person++) {
            for (int kind = 0; kind < 5; kind++) {
                boolean such = kind == 0 || kind == person || kind == 1 && person == 4;
                int due = such ? person : WineByYears.NONE;
                CHECK.due("as(" + person + ", " + kind + ")", x.as(person, kind), due);
            }
        }
        CHECK.due("as(5, 0)", x.as(5, 0), WineByYears.UNKNOWN);
        CHECK.due("as(-1, 5)", x.as(-1, 5), WineByYears.UNKNOWN);
        CHECK.due("as(0, 5)", x.as(0, 5), WineByYears.OUTSIDE);
        CHECK.due("as(0, -1)", x.as(0, -1), WineByYears.OUTSIDE);
        CHECK.due("as(0, 0) without a cellar", new WineByYears().as(0, 0), WineByYears.UNKNOWN);
    }

    private static void drinks() {
        WineByYears x = Check.cellarOf("0;32,51,71");
        x.person(0, 4);
        x.pour(1, 0, 1);
        CHECK.due("drink while the latest is 5", x.drink(0, 0), 0);
        CHECK.due("the latest is gone", x.cask(0, 3), 8);
        CHECK.due("drink when the latest is 3", x.drink(0, 0), 1);
        CHECK.due("drink again", x.drink(0, 0), 1);
        CHECK.due("LITRES", x.cask(0, 0), 0);
        CHECK.due("ILL", x.about(0, 3), 2);
        CHECK.due("ILL of all", x.count(4), 2);
        long before = x.digest();
        CHECK.refused("drink of an empty one", x.drink(0, 0), WineByYears.STATE, before, x.digest());
        CHECK.due("LITRES in all", x.count(2), 1);
    }

    private static void drinksWrong() {
        WineByYears x = Check.cellarOf("0;32,50,71");
        x.person(0, 4);
        long before = x.digest();
        for (int wrong : NO_CASK) {
            CHECK.refused("drink(0, " + wrong + ")", x.drink(0, wrong), WineByYears.UNKNOWN, before, x.digest());
            CHECK.refused("drink(" + wrong + ", 0)", x.drink(wrong, 0), WineByYears.UNKNOWN, before, x.digest());
            CHECK.refused("drink(" + wrong + ", 1)", x.drink(wrong, 1), WineByYears.UNKNOWN, before, x.digest());
        }
        CHECK.due("drink(1, 0)", x.drink(1, 0), WineByYears.UNKNOWN);
    }

    private static void pours() {
        WineByYears x = Check.cellarOf("0;39,59,79");
        CHECK.due("pour(1, 0, 9)", x.pour(1, 0, 9), 18);
        CHECK.due("pour(2, 0, 2)", x.pour(2, 0, 2), 20);
        CHECK.due("into a full one", x.pour(2, 0, 1), WineByYears.STATE);
        CHECK.due("back into an empty one", x.pour(0, 1, 7), 7);
        CHECK.due("2 of year 7", x.cask(1, 17), 2);
        CHECK.due("5 of year 5", x.cask(1, 15), 5);
        CHECK.due("none of year 3", x.cask(1, 13), 0);
        CHECK.due("what is left", x.cask(0, 0), 13);
        CHECK.due("4 of year 5 are left", x.cask(0, 15), 4);
        CHECK.due("LITRES in all", x.count(2), 27);
        CHECK.due("more than are in it", x.pour(2, 0, 8), WineByYears.STATE);
        CHECK.due("as many as are in it", x.pour(2, 0, 7), 20);
    }

    private static void poursWrong() {
        WineByYears x = Check.cellarOf("0;39,59,79");
        long before = x.digest();
        for (int wrong : NO_CASK) {
            CHECK.refused("pour(" + wrong + ", 0, 1)", x.pour(wrong, 0, 1), WineByYears.UNKNOWN, before, x.digest());
            CHECK.refused("pour(0, " + wrong + ", 1)", x.pour(0, wrong, 1), WineByYears.UNKNOWN, before, x.digest());
            CHECK.refused("pour(0, " + wrong + ", 0)", x.pour(0, wrong, 0), WineByYears.UNKNOWN, before, x.digest());
        }
        CHECK.refused("pour(1, 1, 1)", x.pour(1, 1, 1), WineByYears.UNKNOWN, before, x.digest());
        CHECK.refused("pour(1, 1, 0)", x.pour(1, 1, 0), WineByYears.UNKNOWN, before, x.digest());
        for (int litres : new int[] {0, -1, 10, Integer.MIN_VALUE, Integer.MAX_VALUE}) {
            CHECK.refused("pour(0, 1, " + litres + ")", x.pour(0, 1, litres), WineByYears.OUTSIDE, before, x.digest());
        }
        x.pour(0, 1, 9);
        before = x.digest();
        CHECK.refused("no room for 3", x.pour(2, 1, 3), WineByYears.STATE, before, x.digest());
        CHECK.refused("nothing in it", x.pour(0, 2, 1), WineByYears.STATE, before, x.digest());
        CHECK.refused("nothing in it, and 10", x.pour(0, 2, 10), WineByYears.OUTSIDE, before, x.digest());
        CHECK.due("pour without a cellar", new WineByYears().pour(0, 1, 1), WineByYears.UNKNOWN);
    }
}
