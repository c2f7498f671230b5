/** The edges of PEOPLE, of drinking and of pouring ("Terms"), and of promises 7 to 11. */
final class PeopleEdgesTest {
    private static final Check CHECK = new Check();
    private static final int[] ENDS = {Integer.MIN_VALUE, -1, 0, 1, Integer.MAX_VALUE};

    public static void main(String[] args) {
        fivePeople();
        kindsAndBorns();
        personOutside();
        personWithoutCellar();
        personRefusals();
        aboutTells();
        illCounts();
        aboutUnknown();
        aboutOutside();
        casts();
        castsRefused();
        drinksTheLatest();
        drinksAsItIs();
        drinksTheLast();
        drinkUnknown();
        drinkOfAnEmptyOne();
        poursTheLatest();
        poursOneToNine();
        twentyInAll();
        pourUnknown();
        pourOutside();
        pourOfTooFew();
        pourWithoutRoom();
        CHECK.end();
    }

    /** Five people, and a cask of 20 litres, one of none, one of 6. */
    private static WineByYears full() {
        WineByYears x = Check.peopled("0;39,59,79", "03", "13", "29", "30", "40");
        x.image();
        x.pour(1, 0, 9);
        x.pour(2, 0, 2);
        x.drink(2, 0);
        x.pour(2, 0, 1);
        return x;
    }

    private static void fivePeople() {
        CHECK.words("PEOPLE (5 at most, numbered)");
        WineByYears x = Check.cellarOf("0;11,22");
        for (int number = 0; number < 5; number++) {
            CHECK.due("count(3)", x.count(3), number);
            CHECK.due("about one who has not come", x.about(number, 0), WineByYears.UNKNOWN);
            CHECK.due("person(0, 0)", x.person(0, 0), number);
        }
        CHECK.due("count(3)", x.count(3), 5);
        CHECK.due("about a sixth", x.about(5, 0), WineByYears.UNKNOWN);
        for (int kind = 0; kind < 5; kind++) {
            int asked = kind;
            CHECK.unchanged("a sixth", PeopleEdgesTest::full, y -> y.person(asked, 9 - asked), WineByYears.FULL);
        }
    }

    private static void kindsAndBorns() {
        CHECK.words("each BORN in a YEAR (0 to 9)");
        for (int kind = 0; kind < 5; kind++) {
            for (int born = 0; born < 10; born++) {
                WineByYears x = Check.cellarOf("0;11,22");
                CHECK.due("person(" + kind + ", " + born + ")", x.person(kind, born), 0);
                CHECK.due("KIND", x.about(0, 0), kind);
                CHECK.due("BORN", x.about(0, 1), born);
                CHECK.due("ILL", x.about(0, 3), 0);
            }
        }
    }

    private static void personOutside() {
        CHECK.words("person: OUTSIDE: kind, born");
        for (int kind : Check.beyond(0, 4)) {
            String call = "person(" + kind + ", ..)";
            CHECK.unchanged(call, Check::busy, x -> x.person(kind, 0), WineByYears.OUTSIDE);
            CHECK.unchanged(call, Check::busy, x -> x.person(kind, 9), WineByYears.OUTSIDE);
            CHECK.unchanged(call, Check::busy, x -> x.person(kind, 10), WineByYears.OUTSIDE);
        }
        for (int born : Check.beyond(0, 9)) {
            String call = "person(.., " + born + ")";
            CHECK.unchanged(call, Check::busy, x -> x.person(0, born), WineByYears.OUTSIDE);
            CHECK.unchanged(call, Check::busy, x -> x.person(4, born), WineByYears.OUTSIDE);
        }
    }

    private static void personWithoutCellar() {
        CHECK.words("person: STATE: no CELLAR");
        for (int kind = 0; kind < 5; kind++) {
            int asked = kind;
            CHECK.unchanged("person(..)", WineByYears::new, x -> x.person(asked, 0), WineByYears.STATE);
            CHECK.unchanged("person(..)", WineByYears::new, x -> x.person(asked, 9), WineByYears.STATE);
        }
        CHECK.due("with a page that is not read yet", Check.pageOf("0;12,34").person(0, 0), WineByYears.STATE);
    }

    private static void personRefusals() {
        CHECK.words("person: OUTSIDE ahead of STATE and FULL");
        for (int kind : Check.beyond(0, 4)) {
            CHECK.unchanged("without a CELLAR", WineByYears::new, x -> x.person(kind, 0), WineByYears.OUTSIDE);
            CHECK.unchanged("a sixth", PeopleEdgesTest::full, x -> x.person(kind, 0), WineByYears.OUTSIDE);
        }
        for (int born : Check.beyond(0, 9)) {
            CHECK.unchanged("without a CELLAR", WineByYears::new, x -> x.person(0, born), WineByYears.OUTSIDE);
            CHECK.unchanged("a sixth", PeopleEdgesTest::full, x -> x.person(0, born), WineByYears.OUTSIDE);
        }
    }

    private static void aboutTells() {
        CHECK.words("what = 0 KIND, 1 BORN, 2 of which CASKS he MAY drink, as bits, 3 how often he was ILL");
        int[][] due = {{0, 3, 2, 1}, {2, 9, 0, 1}, {4, 3, 7, 0}};
        for (int person = 0; person < 3; person++) {
            for (int what = 0; what < 4; what++) {
                int who = person;
                int asked = what;
                String call = "about(" + person + ", " + what + ")";
                CHECK.unchanged(call, Check::busy, x -> x.about(who, asked), due[person][what]);
            }
        }
        CHECK.due("a WITCH, of all five", Check.peopled("0;01,01,01,01,01", "39").about(0, 2), 31);
        CHECK.due("a WITCH, of all but the empty ones", Check.peopled("0;00,01,00,01,00", "39").about(0, 2), 10);
        for (int cask = 0; cask < 5; cask++) {
            String text = "0;40,40,40,40,40".substring(0, 2 + 3 * cask) + "61" + ",40,40,40,40".substring(3 * cask);
            CHECK.due("one cask, " + text, Check.peopled(text, "04").about(0, 2), 1 << cask);
        }
    }

    private static void illCounts() {
        CHECK.words("if he MAY not, he is ILL (it counts)");
        WineByYears x = Check.peopled("0;09,09,09,09,09", "39", "29");
        for (int times = 0; times < 45; times++) {
            CHECK.due("ILL so far", x.about(1, 3), times);
            CHECK.due("drink(1, ..)", x.drink(1, times / 9), 1);
        }
        CHECK.due("ILL by all there was", x.about(1, 3), 45);
        CHECK.due("ILL of the other", x.about(0, 3), 0);
        CHECK.due("ILL of all", x.count(4), 45);
        WineByYears well = Check.peopled("0;09,00", "39", "29");
        for (int times = 0; times < 9; times++) {
            CHECK.due("drink(0, 0)", well.drink(0, 0), 0);
        }
        CHECK.due("ILL of one who MAY", well.about(0, 3), 0);
        CHECK.due("ILL of all, when nobody was", well.count(4), 0);
    }

    private static void aboutUnknown() {
        CHECK.words("about: UNKNOWN, ahead of OUTSIDE");
        for (int what : new int[] {0, 3, -1, 4, Integer.MIN_VALUE, Integer.MAX_VALUE}) {
            for (int person : Check.beyond(0, 2)) {
                CHECK.unchanged("about(" + person + ", " + what + ")", Check::busy, x -> x.about(person, what),
                    WineByYears.UNKNOWN);
            }
            for (int person : Check.beyond(0, 4)) {
                CHECK.unchanged("about(" + person + ", " + what + ") of five", PeopleEdgesTest::full,
                    x -> x.about(person, what), WineByYears.UNKNOWN);
            }
            for (int person : ENDS) {
                CHECK.unchanged("about(" + person + ", " + what + ") without a CELLAR", WineByYears::new,
                    x -> x.about(person, what), WineByYears.UNKNOWN);
                CHECK.unchanged("about(" + person + ", " + what + ") of nobody", () -> Check.cellarOf("0;12,34"),
                    x -> x.about(person, what), WineByYears.UNKNOWN);
            }
        }
    }

    private static void aboutOutside() {
        CHECK.words("about: OUTSIDE");
        for (int what : Check.beyond(0, 3)) {
            CHECK.unchanged("about(0, " + what + ")", Check::busy, x -> x.about(0, what), WineByYears.OUTSIDE);
            CHECK.unchanged("about(4, " + what + ")", PeopleEdgesTest::full, x -> x.about(4, what),
                WineByYears.OUTSIDE);
        }
    }

    private static void casts() {
        CHECK.words("All are GUESTS; an ABBOT is a WIDOW, too.");
        boolean[][] is = {
            {true, false, false, false, false},
            {true, true, false, false, false},
            {true, false, true, false, false},
            {true, false, false, true, false},
            {true, true, false, false, true}};
        for (int person = 0; person < 5; person++) {
            for (int kind = 0; kind < 5; kind++) {
                int who = person;
                int asked = kind;
                CHECK.unchanged("as(" + person + ", " + kind + ")", PeopleEdgesTest::full, x -> x.as(who, asked),
                    is[person][kind] ? person : WineByYears.NONE);
            }
        }
    }

    private static void castsRefused() {
        CHECK.words("as: UNKNOWN, ahead of OUTSIDE");
        for (int kind : new int[] {0, 4, -1, 5, Integer.MIN_VALUE, Integer.MAX_VALUE}) {
            for (int person : Check.beyond(0, 2)) {
                CHECK.unchanged("as(" + person + ", " + kind + ")", Check::busy, x -> x.as(person, kind),
                    WineByYears.UNKNOWN);
            }
            for (int person : ENDS) {
                CHECK.unchanged("as(" + person + ", " + kind + ") without a CELLAR", WineByYears::new,
                    x -> x.as(person, kind), WineByYears.UNKNOWN);
            }
        }
        CHECK.words("as: OUTSIDE");
        for (int kind : Check.beyond(0, 4)) {
            for (int person = 0; person < 5; person++) {
                int who = person;
                CHECK.unchanged("as(" + person + ", " + kind + ")", PeopleEdgesTest::full, x -> x.as(who, kind),
                    WineByYears.OUTSIDE);
            }
        }
    }

    private static void drinksTheLatest() {
        CHECK.words("Who drinks of a CASK takes one LITRE, of its latest YEAR");
        for (int law = 0; law < 4; law++) {
            WineByYears x = Check.peopled(law + ";02,92,51", "30");
            x.pour(1, 0, 2);
            x.pour(2, 0, 1);
            int[] years = {1 + 32 + 512, 1 + 32 + 512, 1 + 32, 1, 1, 0};
            for (int drunk = 0; drunk < 5; drunk++) {
                CHECK.due("YEARS by LAW " + law, x.cask(0, 3), years[drunk]);
                CHECK.due("LITRES by LAW " + law, x.cask(0, 0), 5 - drunk);
                CHECK.due("drink(0, 0)", x.drink(0, 0), 0);
            }
            CHECK.due("YEARS when all is drunk", x.cask(0, 3), 0);
        }
    }

    /** Whether he MAY hangs on what is in it when he drinks, his own litre with it. */
    private static void drinksAsItIs() {
        CHECK.words("whether he is ILL by it (1, 0)");
        WineByYears guest = Check.peopled("0;11,91", "05");
        guest.pour(1, 0, 1);
        CHECK.due("of AGE 9, 1 then", guest.drink(0, 0), 0);
        CHECK.due("of AGE 1, empty then", guest.drink(0, 0), 1);
        WineByYears abbot = Check.peopled("0;71,81,91", "40");
        abbot.pour(1, 0, 1);
        abbot.pour(2, 0, 1);
        CHECK.due("of three YEARS, two then", abbot.drink(0, 0), 1);
        CHECK.due("of two YEARS", abbot.drink(0, 0), 0);
        CHECK.due("of one YEAR, none then", abbot.drink(0, 0), 0);
        CHECK.due("ILL", abbot.about(0, 3), 1);
    }

    private static void drinksTheLast() {
        CHECK.words("Who drinks of a CASK takes one LITRE");
        WineByYears x = full();
        CHECK.due("drink of a full one", x.drink(3, 0), 0);
        CHECK.due("LITRES then", x.cask(0, 0), 19);
        WineByYears last = Check.peopled("0;91,01", "30", "29");
        CHECK.due("the last LITRE", last.drink(0, 0), 0);
        CHECK.due("LITRES then", last.cask(0, 0), 0);
        CHECK.due("LITRES of the other", last.cask(1, 0), 1);
        CHECK.due("the last LITRE of all", last.drink(1, 1), 1);
        CHECK.due("LITRES of all", last.count(2), 0);
    }

    private static void drinkUnknown() {
        CHECK.words("drink: UNKNOWN: person, cask");
        for (int wrong : Check.beyond(0, 2)) {
            CHECK.unchanged("drink(" + wrong + ", 0)", Check::busy, x -> x.drink(wrong, 0), WineByYears.UNKNOWN);
            CHECK.unchanged("drink(0, " + wrong + ")", Check::busy, x -> x.drink(0, wrong), WineByYears.UNKNOWN);
            CHECK.unchanged("drink(" + wrong + ", 3)", Check::busy, x -> x.drink(wrong, 3), WineByYears.UNKNOWN);
        }
        for (int wrong : ENDS) {
            CHECK.unchanged("drink(" + wrong + ", 0) of nobody", () -> Check.cellarOf("0;12,30"),
                x -> x.drink(wrong, 0), WineByYears.UNKNOWN);
            CHECK.unchanged("drink(0, " + wrong + ") without a CELLAR", WineByYears::new, x -> x.drink(0, wrong),
                WineByYears.UNKNOWN);
        }
        CHECK.words("drink: UNKNOWN ahead of STATE");
        CHECK.unchanged("drink(5, an empty one)", PeopleEdgesTest::full, x -> x.drink(5, 1), WineByYears.UNKNOWN);
        CHECK.unchanged("drink(-1, an empty one)", PeopleEdgesTest::full, x -> x.drink(-1, 1), WineByYears.UNKNOWN);
    }

    private static void drinkOfAnEmptyOne() {
        CHECK.words("drink: STATE: it is empty");
        for (int person = 0; person < 5; person++) {
            int who = person;
            CHECK.unchanged("drink(" + person + ", 1)", PeopleEdgesTest::full, x -> x.drink(who, 1), WineByYears.STATE);
        }
    }

    private static void poursTheLatest() {
        CHECK.words("one by one, those of its latest YEAR first");
        for (int law = 0; law < 4; law++) {
            WineByYears x = Check.cellarOf(law + ";02,92,51,70");
            x.pour(1, 0, 2);
            x.pour(2, 0, 1);
            CHECK.due("pour(0, 3, 1)", x.pour(0, 3, 1), 1);
            CHECK.due("YEARS poured", x.cask(3, 3), 512);
            CHECK.due("pour(0, 3, 2)", x.pour(0, 3, 2), 3);
            CHECK.due("of year 9", x.cask(3, 19), 2);
            CHECK.due("of year 5", x.cask(3, 15), 1);
            CHECK.due("YEARS left", x.cask(0, 3), 1);
            CHECK.due("LITRES left", x.cask(0, 0), 2);
            CHECK.due("pour(0, 3, 2)", x.pour(0, 3, 2), 5);
            CHECK.due("of year 0", x.cask(3, 10), 2);
            CHECK.due("LITRES left then", x.cask(0, 0), 0);
        }
    }

    private static void poursOneToNine() {
        CHECK.words("OUTSIDE: litres (1 to 9)");
        for (int litres = 1; litres <= 9; litres++) {
            WineByYears x = Check.cellarOf("0;59,72");
            CHECK.due("pour(0, 1, " + litres + ")", x.pour(0, 1, litres), 2 + litres);
            CHECK.due("LITRES of a", x.cask(0, 0), 9 - litres);
            CHECK.due("LITRES of b", x.cask(1, 0), 2 + litres);
            CHECK.due("LITRES of b of that YEAR", x.cask(1, 15), litres);
            CHECK.due("LITRES of all", x.count(2), 11);
        }
    }

    private static void twentyInAll() {
        CHECK.words("(20 in all at most)");
        WineByYears x = Check.peopled("0;39,59,79", "30");
        for (int poured = 0; poured < 11; poured++) {
            CHECK.due("pour(.., 0, 1)", x.pour(poured < 9 ? 1 : 2, 0, 1), 10 + poured);
        }
        CHECK.due("a twenty-first", x.pour(2, 0, 1), WineByYears.STATE);
        CHECK.due("LITRES", x.cask(0, 0), 20);
        CHECK.due("of each YEAR", x.cask(0, 13) + 100 * x.cask(0, 15) + 10000 * x.cask(0, 17), 9 + 900 + 20000);
        x.drink(0, 0);
        CHECK.due("two where there is room for one", x.pour(2, 0, 2), WineByYears.STATE);
        CHECK.due("one where there is room for one", x.pour(2, 0, 1), 20);
        CHECK.due("out of a full one", x.pour(0, 1, 9), 9);
        CHECK.due("nine into one of eleven", x.pour(1, 0, 9), 20);
    }

    private static void pourUnknown() {
        CHECK.words("UNKNOWN: a, b, or they are the same");
        for (int litres : new int[] {1, 9, 0, 10, Integer.MIN_VALUE, Integer.MAX_VALUE}) {
            for (int wrong : Check.beyond(0, 2)) {
                CHECK.unchanged("pour(" + wrong + ", 0, " + litres + ")", Check::busy,
                    x -> x.pour(wrong, 0, litres), WineByYears.UNKNOWN);
                CHECK.unchanged("pour(0, " + wrong + ", " + litres + ")", Check::busy,
                    x -> x.pour(0, wrong, litres), WineByYears.UNKNOWN);
                CHECK.unchanged("pour(" + wrong + ", " + wrong + ", " + litres + ")", Check::busy,
                    x -> x.pour(wrong, wrong, litres), WineByYears.UNKNOWN);
            }
            for (int cask = 0; cask < 3; cask++) {
                int same = cask;
                CHECK.unchanged("pour(" + cask + ", " + cask + ", " + litres + ")", PeopleEdgesTest::full,
                    x -> x.pour(same, same, litres), WineByYears.UNKNOWN);
            }
            CHECK.unchanged("pour(0, 1, " + litres + ") without a CELLAR", WineByYears::new,
                x -> x.pour(0, 1, litres), WineByYears.UNKNOWN);
        }
    }

    private static void pourOutside() {
        CHECK.words("pour: OUTSIDE: litres (1 to 9), ahead of STATE");
        for (int litres : Check.beyond(1, 9)) {
            String call = "pour(.., .., " + litres + ")";
            CHECK.unchanged(call, Check::busy, x -> x.pour(0, 1, litres), WineByYears.OUTSIDE);
            CHECK.unchanged(call, PeopleEdgesTest::full, x -> x.pour(0, 1, litres), WineByYears.OUTSIDE);
            CHECK.unchanged(call + " of an empty one", PeopleEdgesTest::full, x -> x.pour(1, 2, litres),
                WineByYears.OUTSIDE);
            CHECK.unchanged(call + " into a full one", PeopleEdgesTest::full, x -> x.pour(2, 0, litres),
                WineByYears.OUTSIDE);
        }
    }

    private static void pourOfTooFew() {
        CHECK.words("STATE: there are fewer in a");
        for (int in = 0; in <= 8; in++) {
            String text = "0;5" + in + ",70";
            for (int litres = in + 1; litres <= 9; litres++) {
                int asked = litres;
                CHECK.unchanged("pour(0, 1, " + litres + ") of " + in, () -> Check.cellarOf(text),
                    x -> x.pour(0, 1, asked), WineByYears.STATE);
            }
            if (in > 0) {
                CHECK.due("all of " + in, Check.cellarOf(text).pour(0, 1, in), in);
            }
        }
    }

    private static void pourWithoutRoom() {
        CHECK.words("or there is no room in b");
        for (int litres = 1; litres <= 9; litres++) {
            int room = litres;
            CHECK.due("room for just " + room, withRoom(room).pour(3, 0, room), 20);
            CHECK.unchanged("room for one less", () -> withRoom(room - 1), x -> x.pour(3, 0, room), WineByYears.STATE);
        }
        CHECK.unchanged("no room, and fewer in a", PeopleEdgesTest::full, x -> x.pour(2, 0, 9), WineByYears.STATE);
    }

    /** Cask 0 has room for so many, 9 at most; there are 9 in cask 3. */
    private static WineByYears withRoom(int room) {
        WineByYears x = Check.cellarOf("0;39,59,79,19");
        x.pour(1, 0, 2);
        if (room < 9) {
            x.pour(2, 0, 9 - room);
        }
        return x;
    }
}
