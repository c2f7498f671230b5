/**
 * A cellar whose wine may be drunk only by the older: casks of litres of years, people of kinds,
 * and questions about what they may drink. The document DOC.md tells every call by a promise.
 */
public final class WineByYears {
    public static final int NONE = -1, UNKNOWN = -101, OUTSIDE = -102, STATE = -103, FULL = -104;

    private static final int YEARS = 10;
    private static final int ALL_YEARS = (1 << YEARS) - 1;
    private static final int MOST_CASKS = 5;
    private static final int MOST_PEOPLE = 5;
    private static final int MOST_TRIALS = 8;
    private static final int MOST_LITRES = 20;
    private static final int MOST_POURED = 9;
    private static final int MOST_BLENDED = 99;
    private static final int MOST_FEASTS = 60;

    private static final int KINDS = 5;
    private static final int GUEST = 0;
    private static final int WIDOW = 1;
    private static final int KING = 2;
    private static final int WITCH = 3;
    private static final int ABBOT = 4;

    /** cask() tells the litres of a year under this number and the year. */
    private static final int LITRES_OF_YEAR = 10;
    private static final int COUNTS = 8;
    private static final int DIGEST_LITRES = 5;

    private final Page page;
    private final Cellar now;
    private final Cellar kept;
    /** What would be is tried here, so that nothing that is changes, and no call makes an object. */
    private final Cellar tried;
    private final Cask mixed;
    private final Cask source;
    private boolean hasImage;
    private int timesRead;

    public WineByYears() {
        page = new Page();
        now = new Cellar();
        kept = new Cellar();
        tried = new Cellar();
        mixed = new Cask();
        source = new Cask();
        hasImage = false;
        timesRead = 0;
    }

    // ---- the cellar

    public int letter(int code) {
        if (code < Page.FIRST_CODE || code > Page.LAST_CODE) {
            return OUTSIDE;
        }
        if (page.length >= Page.MOST_LETTERS) {
            return FULL;
        }
        return page.append(code);
    }

    public int blank() {
        return page.clear();
    }

    public int fault() {
        return page.firstFault();
    }

    public int cellar() {
        int casks = page.casksWritten();
        if (casks == 0) {
            return STATE;
        }
        now.readFrom(page, casks);
        page.clear();
        hasImage = false;
        timesRead++;
        return casks;
    }

    public int cask(int cask, int what) {
        if (!now.hasCask(cask)) {
            return UNKNOWN;
        }
        Cask told = now.casks[cask];
        if (what >= LITRES_OF_YEAR && what < LITRES_OF_YEAR + YEARS) {
            return told.ofYear[what - LITRES_OF_YEAR];
        }
        switch (what) {
            case 0:
                return told.litres;
            case 1:
                return told.age(now.law);
            case 2:
                return now.whoMay(told);
            case 3:
                return told.yearBits();
            default:
                return OUTSIDE;
        }
    }

    // ---- people

    public int person(int kind, int born) {
        if (!isKind(kind) || born < 0 || born >= YEARS) {
            return OUTSIDE;
        }
        if (!now.isThere()) {
            return STATE;
        }
        if (now.peopleCount >= MOST_PEOPLE) {
            return FULL;
        }
        return now.welcome(kind, born);
    }

    public int about(int person, int what) {
        if (!now.hasPerson(person)) {
            return UNKNOWN;
        }
        switch (what) {
            case 0:
                return now.kinds[person];
            case 1:
                return now.borns[person];
            case 2:
                return now.casksFor(person);
            case 3:
                return now.ills[person];
            default:
                return OUTSIDE;
        }
    }

    public int as(int person, int kind) {
        if (!now.hasPerson(person)) {
            return UNKNOWN;
        }
        if (!isKind(kind)) {
            return OUTSIDE;
        }
        return isOfKind(now.kinds[person], kind) ? person : NONE;
    }

    public int drink(int person, int cask) {
        if (!now.hasPerson(person) || !now.hasCask(cask)) {
            return UNKNOWN;
        }
        if (now.casks[cask].litres == 0) {
            return STATE;
        }
        return now.sip(person, cask);
    }

    public int pour(int a, int b, int litres) {
        if (!now.hasCask(a) || !now.hasCask(b) || a == b) {
            return UNKNOWN;
        }
        if (litres < 1 || litres > MOST_POURED) {
            return OUTSIDE;
        }
        Cask from = now.casks[a];
        Cask into = now.casks[b];
        if (litres > from.litres || litres > into.room()) {
            return STATE;
        }
        for (int poured = 0; poured < litres; poured++) {
            into.put(from.takeLatest(), 1);
        }
        return into.litres;
    }

    // ---- what would be

    public int table(int people) {
        if (!now.arePeople(people)) {
            return OUTSIDE;
        }
        if (!now.isThere()) {
            return STATE;
        }
        return now.seated(people);
    }

    public int blend(int people, int litres, int what) {
        if (!now.arePeople(people) || litres < 0 || litres > MOST_BLENDED || !isZeroOrOne(what)) {
            return OUTSIDE;
        }
        if (!now.isThere()) {
            return STATE;
        }
        int bits = leastBlend(people, litres);
        return what == 0 ? casksIn(bits) : bits;
    }

    public int top(int people, int cask, int what) {
        if (!now.hasCask(cask)) {
            return UNKNOWN;
        }
        if (!now.arePeople(people) || !isZeroOrOne(what)) {
            return OUTSIDE;
        }
        if (now.allMay(people, now.casks[cask])) {
            return what == 0 ? 0 : NONE;
        }
        int fewest = NONE;
        int outOf = NONE;
        for (int other = 0; other < now.caskCount; other++) {
            int litres = other == cask ? NONE : litresToTop(people, cask, other);
            if (litres != NONE && (fewest == NONE || litres < fewest)) {
                fewest = litres;
                outOf = other;
            }
        }
        return what == 0 ? fewest : outOf;
    }

    // ---- trials

    public int trial(int cask, boolean ill) {
        if (!now.hasCask(cask)) {
            return UNKNOWN;
        }
        if (now.trialCount >= MOST_TRIALS) {
            return FULL;
        }
        return now.noteTrial(cask, ill);
    }

    public int forget() {
        return now.dropTrials();
    }

    public int births(int kind) {
        if (!isKind(kind)) {
            return OUTSIDE;
        }
        if (!now.isThere()) {
            return STATE;
        }
        return now.possibleBirths(kind);
    }

    public int ask(int kind) {
        if (!isKind(kind)) {
            return OUTSIDE;
        }
        if (!now.isThere()) {
            return STATE;
        }
        return now.bestQuestion(kind);
    }

    public int topped(int cask, int people, int what) {
        if (!now.hasCask(cask)) {
            return UNKNOWN;
        }
        if (!now.arePeople(people) || !isZeroOrOne(what)) {
            return OUTSIDE;
        }
        int ways = 0;
        int least = NONE;
        for (int a = 0; a < now.caskCount; a++) {
            for (int b = 0; b < now.caskCount; b++) {
                if (canPourOne(a, b) && whoMayAfter(cask, a, b) == people) {
                    least = ways == 0 ? MOST_CASKS * a + b : least;
                    ways++;
                }
            }
        }
        return what == 0 ? ways : least;
    }

    public int feasts(int times, int seed, int what) {
        if (times < 1 || times > MOST_FEASTS || seed < 0 || what < 0 || what > 2) {
            return OUTSIDE;
        }
        if (now.peopleCount == 0) {
            return STATE;
        }
        tried.become(now);
        int next = seed;
        int ill = 0;
        for (int feast = 0; feast < times; feast++) {
            next = nextSeed(next);
            int person = draw(next, tried.peopleCount);
            next = nextSeed(next);
            int cask = draw(next, tried.caskCount);
            ill += tried.sip(person, cask);
        }
        if (what == 0) {
            return ill;
        }
        return what == 1 ? tried.litresInAll() : next;
    }

    // ---- what is told of all

    public int image() {
        if (!now.isThere()) {
            return STATE;
        }
        kept.become(now);
        hasImage = true;
        return now.litresInAll();
    }

    public int restore() {
        if (!hasImage) {
            return STATE;
        }
        now.become(kept);
        return now.litresInAll();
    }

    public int count(int what) {
        switch (what) {
            case 0:
                return now.law;
            case 1:
                return now.caskCount;
            case 2:
                return now.litresInAll();
            case 3:
                return now.peopleCount;
            case 4:
                return now.illInAll();
            case 5:
                return now.trialCount;
            case 6:
                return page.length;
            case 7:
                return timesRead;
            default:
                return OUTSIDE;
        }
    }

    public long digest() {
        long h = 863L;
        for (int cask = 0; cask < now.caskCount; cask++) {
            h = withCask(h, cask);
        }
        for (int person = 0; person < now.peopleCount; person++) {
            for (int what = 0; what <= 3; what++) {
                h = with(h, about(person, what));
            }
        }
        if (now.isThere()) {
            h = withQuestions(h);
        }
        for (int place = 0; place < page.length; place++) {
            h = with(h, page.codes[place]);
        }
        for (int what = 0; what < COUNTS; what++) {
            h = with(h, count(what));
        }
        return h;
    }

    private static long with(long h, int number) {
        return 31L * h + number;
    }

    private long withCask(long start, int cask) {
        long h = start;
        for (int what = 0; what <= 3; what++) {
            h = with(h, cask(cask, what));
        }
        for (int year = 0; year < YEARS; year++) {
            h = with(h, cask(cask, LITRES_OF_YEAR + year));
        }
        return h;
    }

    private long withQuestions(long start) {
        int all = now.allPeople();
        int blended = leastBlend(all, DIGEST_LITRES);
        long h = with(start, now.seated(all));
        h = with(h, casksIn(blended));
        h = with(h, blended);
        for (int kind = 0; kind < KINDS; kind++) {
            h = with(h, now.possibleBirths(kind));
            h = with(h, now.bestQuestion(kind));
        }
        return h;
    }

    /** The casks of the least blend, as bits, or NONE. */
    private int leastBlend(int people, int litres) {
        int best = NONE;
        // Bits go up, so the first of as many casks has the least bits.
        for (int bits = 0; bits < 1 << now.caskCount; bits++) {
            boolean fewer = best == NONE || Integer.bitCount(bits) < Integer.bitCount(best);
            if (fewer && mix(bits) && mixed.litres >= litres && now.allMay(people, mixed)) {
                best = bits;
            }
        }
        return best;
    }

    private static int casksIn(int blended) {
        return blended == NONE ? NONE : Integer.bitCount(blended);
    }

    /** Puts all of these casks together in mixed, however many; false if one of them is empty. */
    private boolean mix(int bits) {
        mixed.drain();
        for (int cask = 0; cask < now.caskCount; cask++) {
            if ((bits & 1 << cask) != 0) {
                if (now.casks[cask].litres == 0) {
                    return false;
                }
                mixed.putAllOf(now.casks[cask]);
            }
        }
        return true;
    }

    /** How few litres, one at least, out of the other cask make that all may drink, or NONE. */
    private int litresToTop(int people, int cask, int other) {
        mixed.become(now.casks[cask]);
        source.become(now.casks[other]);
        int most = Math.min(source.litres, mixed.room());
        for (int litres = 1; litres <= most; litres++) {
            mixed.put(source.takeLatest(), 1);
            if (now.allMay(people, mixed)) {
                return litres;
            }
        }
        return NONE;
    }

    private boolean canPourOne(int a, int b) {
        return a != b && now.casks[a].litres > 0 && now.casks[b].room() > 0;
    }

    /** Who may drink of the cask when one litre has been poured out of a into b. */
    private int whoMayAfter(int cask, int a, int b) {
        mixed.become(now.casks[cask]);
        if (a == cask) {
            mixed.takeLatest();
        }
        if (b == cask) {
            mixed.put(now.casks[a].latestYear(), 1);
        }
        return now.whoMay(mixed);
    }

    private static int nextSeed(int seed) {
        return (int) ((1103515245L * seed + 12345L) & 0x7fffffffL);
    }

    private static int draw(int seed, int howMany) {
        return howMany <= 0 ? 0 : (seed / 65536) % howMany;
    }

    private static boolean isZeroOrOne(int what) {
        return what == 0 || what == 1;
    }

    private static boolean isKind(int kind) {
        return kind >= 0 && kind < KINDS;
    }

    private static boolean isOfKind(int kind, int asked) {
        return asked == GUEST || asked == kind || asked == WIDOW && kind == ABBOT;
    }

    /** Whether one of a kind may drink of a cask of this age (NONE: it is empty) and so many years. */
    private static boolean mayDrink(int kind, int born, int age, int years) {
        if (age == NONE) {
            return false;
        }
        switch (kind) {
            case WIDOW:
                return age >= born;
            case KING:
                return age >= born + 2;
            case WITCH:
                return true;
            case ABBOT:
                return age >= born && years < 3;
            default:
                return age > born;
        }
    }

    /** Letters told one by one, and whether a cellar could be written so. */
    private static final class Page {
        static final int FIRST_CODE = 32;
        static final int LAST_CODE = 126;
        static final int MOST_LETTERS = 18;
        private static final int SHORTEST_CELLAR = 7;
        private static final int LONGEST_CELLAR = 16;
        private static final int GREATEST_LAW = 3;

        final int[] codes = new int[MOST_LETTERS];
        int length;

        int append(int code) {
            if (length < MOST_LETTERS) {
                codes[length] = code;
                length++;
            }
            return length;
        }

        int clear() {
            int had = length;
            length = 0;
            return had;
        }

        int firstFault() {
            for (int place = 0; place < length; place++) {
                if (!fits(place, codes[place])) {
                    return place;
                }
            }
            return length;
        }

        /** What may stand in a place hangs on the place alone: "L;YL,YL,..", a ',' in each third. */
        private static boolean fits(int place, int code) {
            if (place == 0) {
                return code >= '0' && code <= '0' + GREATEST_LAW;
            }
            if (place == 1) {
                return code == ';';
            }
            if (place >= LONGEST_CELLAR) {
                return false;
            }
            return place % 3 == 1 ? code == ',' : code >= '0' && code <= '9';
        }

        /** How many casks the page tells, 0 if it is no cellar. */
        int casksWritten() {
            boolean whole = length >= SHORTEST_CELLAR && length % 3 == 1 && firstFault() == length;
            return whole ? length / 3 : 0;
        }

        /** The number that a digit of the page tells, 0 if there is none. */
        int digitAt(int place) {
            return place >= 0 && place < length ? codes[place] - '0' : 0;
        }
    }

    /** Litres, each of a year. */
    private static final class Cask {
        final int[] ofYear = new int[YEARS];
        int litres;

        void drain() {
            for (int year = 0; year < YEARS; year++) {
                ofYear[year] = 0;
            }
            litres = 0;
        }

        void put(int year, int howMany) {
            if (year >= 0 && year < YEARS) {
                ofYear[year] += howMany;
                litres += howMany;
            }
        }

        void putAllOf(Cask other) {
            for (int year = 0; year < YEARS; year++) {
                put(year, other.ofYear[year]);
            }
        }

        void become(Cask other) {
            drain();
            putAllOf(other);
        }

        int room() {
            return MOST_LITRES - litres;
        }

        /** The year of the litre that is taken, NONE if there is none. */
        int takeLatest() {
            int year = latestYear();
            put(year, -1);
            return year;
        }

        int latestYear() {
            for (int year = YEARS - 1; year >= 0; year--) {
                if (ofYear[year] > 0) {
                    return year;
                }
            }
            return NONE;
        }

        int yearBits() {
            int bits = 0;
            for (int year = 0; year < YEARS; year++) {
                if (ofYear[year] > 0) {
                    bits |= 1 << year;
                }
            }
            return bits;
        }

        /** The age by a law, NONE if the cask is empty. */
        int age(int law) {
            if (litres <= 0) {
                return NONE;
            }
            switch (law) {
                case 0:
                    return latestYear();
                case 1:
                    return earliestYear();
                case 2:
                    return commonestYear();
                default:
                    return yearSum() / litres;
            }
        }

        private int earliestYear() {
            for (int year = 0; year < YEARS; year++) {
                if (ofYear[year] > 0) {
                    return year;
                }
            }
            return NONE;
        }

        private int commonestYear() {
            int best = 0;
            for (int year = 1; year < YEARS; year++) {
                // Of like ones the latest: so one that is no fewer wins.
                if (ofYear[year] >= ofYear[best]) {
                    best = year;
                }
            }
            return best;
        }

        private int yearSum() {
            int sum = 0;
            for (int year = 0; year < YEARS; year++) {
                sum += year * ofYear[year];
            }
            return sum;
        }
    }

    /** A law, casks, people and trials: all that an image keeps. It is there if it has casks. */
    private static final class Cellar {
        final Cask[] casks = new Cask[MOST_CASKS];
        final int[] kinds = new int[MOST_PEOPLE];
        final int[] borns = new int[MOST_PEOPLE];
        final int[] ills = new int[MOST_PEOPLE];
        private final int[] trialCasks = new int[MOST_TRIALS];
        /** Of each cask who may drink of it; filled anew where it is used. */
        private final int[] drinkers = new int[MOST_CASKS];
        int law;
        int caskCount;
        int peopleCount;
        int trialCount;
        private int trialIllBits;

        Cellar() {
            for (int cask = 0; cask < MOST_CASKS; cask++) {
                casks[cask] = new Cask();
            }
        }

        void readFrom(Page page, int casksWritten) {
            law = page.digitAt(0);
            caskCount = Math.min(casksWritten, MOST_CASKS);
            for (int cask = 0; cask < MOST_CASKS; cask++) {
                casks[cask].drain();
            }
            for (int cask = 0; cask < caskCount; cask++) {
                int place = 2 + 3 * cask;
                casks[cask].put(page.digitAt(place), page.digitAt(place + 1));
            }
            peopleCount = 0;
            dropTrials();
        }

        void become(Cellar other) {
            law = other.law;
            caskCount = other.caskCount;
            for (int cask = 0; cask < MOST_CASKS; cask++) {
                casks[cask].become(other.casks[cask]);
            }
            peopleCount = other.peopleCount;
            System.arraycopy(other.kinds, 0, kinds, 0, MOST_PEOPLE);
            System.arraycopy(other.borns, 0, borns, 0, MOST_PEOPLE);
            System.arraycopy(other.ills, 0, ills, 0, MOST_PEOPLE);
            trialCount = other.trialCount;
            trialIllBits = other.trialIllBits;
            System.arraycopy(other.trialCasks, 0, trialCasks, 0, MOST_TRIALS);
        }

        boolean isThere() {
            return caskCount > 0;
        }

        boolean hasCask(int cask) {
            return cask >= 0 && cask < caskCount;
        }

        boolean hasPerson(int person) {
            return person >= 0 && person < peopleCount;
        }

        int allPeople() {
            return (1 << peopleCount) - 1;
        }

        boolean arePeople(int bits) {
            return (bits & ~allPeople()) == 0;
        }

        int litresInAll() {
            int sum = 0;
            for (int cask = 0; cask < caskCount; cask++) {
                sum += casks[cask].litres;
            }
            return sum;
        }

        int illInAll() {
            int sum = 0;
            for (int person = 0; person < peopleCount; person++) {
                sum += ills[person];
            }
            return sum;
        }

        /** The number of the person who comes, NONE if there is no seat. */
        int welcome(int kind, int born) {
            if (peopleCount >= MOST_PEOPLE) {
                return NONE;
            }
            int person = peopleCount;
            kinds[person] = kind;
            borns[person] = born;
            ills[person] = 0;
            peopleCount++;
            return person;
        }

        int whoMay(Cask cask) {
            int age = cask.age(law);
            int years = Integer.bitCount(cask.yearBits());
            int bits = 0;
            for (int person = 0; person < peopleCount; person++) {
                if (mayDrink(kinds[person], borns[person], age, years)) {
                    bits |= 1 << person;
                }
            }
            return bits;
        }

        boolean allMay(int people, Cask cask) {
            return (people & ~whoMay(cask)) == 0;
        }

        int casksFor(int person) {
            int bits = 0;
            for (int cask = 0; cask < caskCount; cask++) {
                if (allMay(1 << person, casks[cask])) {
                    bits |= 1 << cask;
                }
            }
            return bits;
        }

        /** One drinks, if there is anything in the cask: 1 if it makes ill. */
        int sip(int person, int cask) {
            if (!hasPerson(person) || !hasCask(cask) || casks[cask].litres == 0) {
                return 0;
            }
            int ill = allMay(1 << person, casks[cask]) ? 0 : 1;
            ills[person] += ill;
            casks[cask].takeLatest();
            return ill;
        }

        /**
         * How many of these people can drink at once. By Koenig's theorem that is the least, over
         * all sets of casks, of the litres in the set and the people who may drink outside of it.
         */
        int seated(int people) {
            for (int cask = 0; cask < caskCount; cask++) {
                drinkers[cask] = people & whoMay(casks[cask]);
            }
            int fewest = Integer.bitCount(people);
            for (int set = 0; set < 1 << caskCount; set++) {
                fewest = Math.min(fewest, boundBy(set));
            }
            return fewest;
        }

        private int boundBy(int set) {
            int litres = 0;
            int outside = 0;
            for (int cask = 0; cask < caskCount; cask++) {
                if ((set & 1 << cask) != 0) {
                    litres += casks[cask].litres;
                } else {
                    outside |= drinkers[cask];
                }
            }
            return litres + Integer.bitCount(outside);
        }

        int noteTrial(int cask, boolean ill) {
            if (trialCount < MOST_TRIALS) {
                trialCasks[trialCount] = cask;
                if (ill) {
                    trialIllBits |= 1 << trialCount;
                }
                trialCount++;
            }
            return trialCount;
        }

        int dropTrials() {
            int had = trialCount;
            trialCount = 0;
            trialIllBits = 0;
            return had;
        }

        int possibleBirths(int kind) {
            int years = ALL_YEARS;
            for (int trial = 0; trial < trialCount; trial++) {
                int cask = trialCasks[trial];
                int well = hasCask(cask) ? birthsThatMay(kind, casks[cask]) : 0;
                boolean ill = (trialIllBits & 1 << trial) != 0;
                years &= ill ? ~well : well;
            }
            return years;
        }

        /** The years in which one of a kind must be born to drink of the cask, as bits. */
        private int birthsThatMay(int kind, Cask cask) {
            int age = cask.age(law);
            int years = Integer.bitCount(cask.yearBits());
            int bits = 0;
            for (int born = 0; born < YEARS; born++) {
                if (mayDrink(kind, born, age, years)) {
                    bits |= 1 << born;
                }
            }
            return bits;
        }

        int bestQuestion(int kind) {
            int years = possibleBirths(kind);
            if (years == 0) {
                return NONE;
            }
            int best = NONE;
            int fewestLeft = YEARS + 1;
            for (int cask = 0; cask < caskCount; cask++) {
                int left = leftAtWorst(years, birthsThatMay(kind, casks[cask]));
                if (casks[cask].litres > 0 && left < fewestLeft) {
                    best = cask;
                    fewestLeft = left;
                }
            }
            return best;
        }

        private static int leftAtWorst(int years, int well) {
            return Math.max(Integer.bitCount(years & well), Integer.bitCount(years & ~well));
        }
    }
}
