import java.util.ArrayList;
import java.util.Collections;
import java.util.List;

/**
 * The document once more, told as plainly as can be and by other means (texts, lists of litres,
 * trying all ways), to be compared with the class. It is slow and makes many objects.
 */
final class PlainModel {
    static final int NONE = -1, UNKNOWN = -101, OUTSIDE = -102, STATE = -103, FULL = -104;

    /** What an image keeps. */
    private static final class All {
        List<List<Integer>> casks = new ArrayList<>();
        List<int[]> people = new ArrayList<>();
        List<int[]> trials = new ArrayList<>();

        All copy() {
            All c = new All();
            for (List<Integer> cask : casks) {
                c.casks.add(new ArrayList<>(cask));
            }
            for (int[] person : people) {
                c.people.add(person.clone());
            }
            for (int[] trial : trials) {
                c.trials.add(trial.clone());
            }
            return c;
        }
    }

    private String page = "";
    private int law = 0;
    private int read = 0;
    private All all = new All();
    private All image = null;

    int letter(int code) {
        if (code < 32 || code > 126) return OUTSIDE;
        if (page.length() == 18) return FULL;
        page += (char) code;
        return page.length();
    }

    int blank() {
        int had = page.length();
        page = "";
        return had;
    }

    private static boolean isCellar(String text) {
        return text.matches("[0-3];[0-9][0-9](,[0-9][0-9]){1,4}");
    }

    int fault() {
        String whole = "0;00,00,00,00,00";
        for (int end = 1; end <= page.length(); end++) {
            String start = page.substring(0, end);
            if (end > whole.length() || !isCellar(start + whole.substring(end))) return end - 1;
        }
        return page.length();
    }

    int cellar() {
        if (!isCellar(page)) return STATE;
        all = new All();
        image = null;
        read++;
        law = Integer.parseInt(page.substring(0, 1));
        for (String told : page.substring(2).split(",")) {
            int year = told.charAt(0) - '0';
            all.casks.add(new ArrayList<>(Collections.nCopies(told.charAt(1) - '0', year)));
        }
        page = "";
        return all.casks.size();
    }

    private boolean noCask(int cask) {
        return cask < 0 || cask >= all.casks.size();
    }

    private boolean noPerson(int person) {
        return person < 0 || person >= all.people.size();
    }

    private boolean notPeople(int bits) {
        for (int bit = 0; bit < 32; bit++) {
            if ((bits >>> bit & 1) == 1 && noPerson(bit)) return true;
        }
        return false;
    }

    private int age(List<Integer> cask) {
        if (cask.isEmpty()) return NONE;
        if (law == 0) return Collections.max(cask);
        if (law == 1) return Collections.min(cask);
        if (law == 3) return (int) Math.floor(cask.stream().mapToInt(y -> y).sum() / (double) cask.size());
        int best = 9;
        for (int year = 8; year >= 0; year--) {
            if (Collections.frequency(cask, year) > Collections.frequency(cask, best)) best = year;
        }
        return best;
    }

    private boolean may(int kind, int born, List<Integer> cask) {
        if (cask.isEmpty()) return false;
        int age = age(cask);
        if (kind == 0) return age > born;
        if (kind == 1) return age >= born;
        if (kind == 2) return age - born >= 2;
        if (kind == 3) return true;
        return age >= born && cask.stream().distinct().count() < 3;
    }

    private int whoMay(List<Integer> cask) {
        int bits = 0;
        for (int p = 0; p < all.people.size(); p++) {
            if (may(all.people.get(p)[0], all.people.get(p)[1], cask)) bits += 1 << p;
        }
        return bits;
    }

    int cask(int cask, int what) {
        if (noCask(cask)) return UNKNOWN;
        List<Integer> c = all.casks.get(cask);
        if (what == 0) return c.size();
        if (what == 1) return age(c);
        if (what == 2) return whoMay(c);
        if (what == 3) return c.stream().distinct().mapToInt(y -> 1 << y).sum();
        if (what >= 10 && what <= 19) return Collections.frequency(c, what - 10);
        return OUTSIDE;
    }

    int person(int kind, int born) {
        if (kind < 0 || kind > 4 || born < 0 || born > 9) return OUTSIDE;
        if (all.casks.isEmpty()) return STATE;
        if (all.people.size() == 5) return FULL;
        all.people.add(new int[] {kind, born, 0});
        return all.people.size() - 1;
    }

    int about(int person, int what) {
        if (noPerson(person)) return UNKNOWN;
        int[] p = all.people.get(person);
        if (what == 0) return p[0];
        if (what == 1) return p[1];
        if (what == 3) return p[2];
        if (what != 2) return OUTSIDE;
        int bits = 0;
        for (int c = 0; c < all.casks.size(); c++) {
            if (may(p[0], p[1], all.casks.get(c))) bits += 1 << c;
        }
        return bits;
    }

    int as(int person, int kind) {
        if (noPerson(person)) return UNKNOWN;
        if (kind < 0 || kind > 4) return OUTSIDE;
        String[] kinds = {"0", "01", "02", "03", "014"};
        return kinds[all.people.get(person)[0]].contains("" + kind) ? person : NONE;
    }

    private static int take(List<Integer> cask) {
        Integer latest = Collections.max(cask);
        cask.remove(latest);
        return latest;
    }

    int drink(int person, int cask) {
        if (noPerson(person) || noCask(cask)) return UNKNOWN;
        List<Integer> c = all.casks.get(cask);
        if (c.isEmpty()) return STATE;
        int[] p = all.people.get(person);
        int ill = may(p[0], p[1], c) ? 0 : 1;
        p[2] += ill;
        take(c);
        return ill;
    }

    int pour(int a, int b, int litres) {
        if (noCask(a) || noCask(b) || a == b) return UNKNOWN;
        if (litres < 1 || litres > 9) return OUTSIDE;
        List<Integer> from = all.casks.get(a);
        List<Integer> into = all.casks.get(b);
        if (from.size() < litres || into.size() + litres > 20) return STATE;
        for (int i = 0; i < litres; i++) {
            into.add(take(from));
        }
        return into.size();
    }

    int table(int people) {
        if (notPeople(people)) return OUTSIDE;
        if (all.casks.isEmpty()) return STATE;
        int[] left = new int[all.casks.size()];
        for (int c = 0; c < left.length; c++) {
            left[c] = all.casks.get(c).size();
        }
        return most(people, 0, left);
    }

    private int most(int people, int from, int[] left) {
        if (from == all.people.size()) return 0;
        int best = most(people, from + 1, left);
        if ((people >> from & 1) == 0) return best;
        int[] p = all.people.get(from);
        for (int c = 0; c < left.length; c++) {
            if (left[c] > 0 && may(p[0], p[1], all.casks.get(c))) {
                left[c]--;
                best = Math.max(best, 1 + most(people, from + 1, left));
                left[c]++;
            }
        }
        return best;
    }

    int blend(int people, int litres, int what) {
        if (notPeople(people) || litres < 0 || litres > 99 || what < 0 || what > 1) return OUTSIDE;
        if (all.casks.isEmpty()) return STATE;
        for (int many = 0; many <= all.casks.size(); many++) {
            for (int bits = 0; bits < 1 << all.casks.size(); bits++) {
                if (Integer.bitCount(bits) == many && blends(bits, people, litres)) return what == 0 ? many : bits;
            }
        }
        return NONE;
    }

    private boolean blends(int bits, int people, int litres) {
        List<Integer> mixed = new ArrayList<>();
        for (int c = 0; c < all.casks.size(); c++) {
            if ((bits >> c & 1) == 1) {
                if (all.casks.get(c).isEmpty()) return false;
                mixed.addAll(all.casks.get(c));
            }
        }
        return mixed.size() >= litres && (whoMay(mixed) & people) == people;
    }

    int top(int people, int cask, int what) {
        if (noCask(cask)) return UNKNOWN;
        if (notPeople(people) || what < 0 || what > 1) return OUTSIDE;
        if ((whoMay(all.casks.get(cask)) & people) == people) return what == 0 ? 0 : NONE;
        for (int litres = 1; litres <= 20; litres++) {
            for (int other = 0; other < all.casks.size(); other++) {
                if (other != cask && tops(people, cask, other, litres)) return what == 0 ? litres : other;
            }
        }
        return NONE;
    }

    private boolean tops(int people, int cask, int other, int litres) {
        List<Integer> into = new ArrayList<>(all.casks.get(cask));
        List<Integer> from = new ArrayList<>(all.casks.get(other));
        if (from.size() < litres || into.size() + litres > 20) return false;
        for (int i = 0; i < litres; i++) {
            into.add(take(from));
        }
        return (whoMay(into) & people) == people;
    }

    int trial(int cask, boolean ill) {
        if (noCask(cask)) return UNKNOWN;
        if (all.trials.size() == 8) return FULL;
        all.trials.add(new int[] {cask, ill ? 1 : 0});
        return all.trials.size();
    }

    int forget() {
        int had = all.trials.size();
        all.trials.clear();
        return had;
    }

    int births(int kind) {
        if (kind < 0 || kind > 4) return OUTSIDE;
        if (all.casks.isEmpty()) return STATE;
        int bits = 0;
        for (int born = 0; born < 10; born++) {
            boolean so = true;
            for (int[] trial : all.trials) {
                so &= may(kind, born, all.casks.get(trial[0])) == (trial[1] == 0);
            }
            if (so) bits += 1 << born;
        }
        return bits;
    }

    int ask(int kind) {
        if (kind < 0 || kind > 4) return OUTSIDE;
        if (all.casks.isEmpty()) return STATE;
        int years = births(kind);
        int best = NONE;
        int least = 99;
        for (int c = 0; c < all.casks.size() && years != 0; c++) {
            if (all.casks.get(c).isEmpty()) continue;
            int ill = 0;
            int well = 0;
            for (int born = 0; born < 10; born++) {
                if ((years >> born & 1) == 0) continue;
                if (may(kind, born, all.casks.get(c))) well++;
                else ill++;
            }
            if (Math.max(ill, well) < least) {
                least = Math.max(ill, well);
                best = c;
            }
        }
        return best;
    }

    int topped(int cask, int people, int what) {
        if (noCask(cask)) return UNKNOWN;
        if (notPeople(people) || what < 0 || what > 1) return OUTSIDE;
        List<Integer> ways = new ArrayList<>();
        All was = all;
        for (int a = 0; a < was.casks.size(); a++) {
            for (int b = 0; b < was.casks.size(); b++) {
                all = was.copy();
                if (pour(a, b, 1) >= 0 && whoMay(all.casks.get(cask)) == people) ways.add(5 * a + b);
            }
        }
        all = was;
        if (what == 0) return ways.size();
        return ways.isEmpty() ? NONE : Collections.min(ways);
    }

    int feasts(int times, int seed, int what) {
        if (times < 1 || times > 60 || seed < 0 || what < 0 || what > 2) return OUTSIDE;
        if (all.people.isEmpty()) return STATE;
        All was = all;
        all = was.copy();
        long next = seed;
        int ill = 0;
        for (int i = 0; i < times; i++) {
            next = Math.floorMod(1103515245L * next + 12345L, 1L << 31);
            int person = (int) (next / 65536 % all.people.size());
            next = Math.floorMod(1103515245L * next + 12345L, 1L << 31);
            int cask = (int) (next / 65536 % all.casks.size());
            ill += Math.max(0, drink(person, cask));
        }
        int left = count(2);
        all = was;
        return what == 0 ? ill : what == 1 ? left : (int) next;
    }

    int image() {
        if (all.casks.isEmpty()) return STATE;
        image = all.copy();
        return count(2);
    }

    int restore() {
        if (image == null) return STATE;
        all = image.copy();
        return count(2);
    }

    int count(int what) {
        switch (what) {
            case 0: return law;
            case 1: return all.casks.size();
            case 2: return all.casks.stream().mapToInt(List::size).sum();
            case 3: return all.people.size();
            case 4: return all.people.stream().mapToInt(p -> p[2]).sum();
            case 5: return all.trials.size();
            case 6: return page.length();
            case 7: return read;
            default: return OUTSIDE;
        }
    }

    long digest() {
        List<Integer> told = new ArrayList<>();
        for (int c = 0; c < all.casks.size(); c++) {
            for (int what : new int[] {0, 1, 2, 3, 10, 11, 12, 13, 14, 15, 16, 17, 18, 19}) {
                told.add(cask(c, what));
            }
        }
        for (int p = 0; p < all.people.size(); p++) {
            for (int what = 0; what < 4; what++) {
                told.add(about(p, what));
            }
        }
        if (!all.casks.isEmpty()) {
            int everybody = (1 << all.people.size()) - 1;
            told.add(table(everybody));
            told.add(blend(everybody, 5, 0));
            told.add(blend(everybody, 5, 1));
            for (int kind = 0; kind < 5; kind++) {
                told.add(births(kind));
                told.add(ask(kind));
            }
        }
        page.chars().forEach(told::add);
        for (int what = 0; what < 8; what++) {
            told.add(count(what));
        }
        long h = 863;
        for (int number : told) {
            h = 31 * h + number;
        }
        return h;
    }
}
