import java.math.BigInteger;
import java.util.ArrayDeque;
import java.util.ArrayList;
import java.util.Deque;
import java.util.HashSet;
import java.util.List;
import java.util.Set;
import java.util.regex.Matcher;
import java.util.regex.Pattern;

/**
 * The document once more, written as its words go, without a thought for speed: what the class is
 * held against. It shares no code and no way of keeping things with the class.
 */
final class Model {
    private static final int BAD = -1, STATE = -2, FULL = -3, NONE = -9, NO = -1000000;
    private static final int CAME = -1;
    private static final Pattern TOKEN = Pattern.compile("[0-9]+|[^0-9 ]");

    private record Person(int bank, char kind, int word, int slow) { }

    private record Told(int planks, List<Person> people, Set<List<Integer>> came, int items) { }

    private record Sight(int load, boolean over) { }

    /** A promise is 0 (none), CAME, or the day on which it comes. */
    private static final class Now {
        int day = 0;
        int crossed = 0;
        final int[][] promise = new int[8][8];

        Now copy() {
            Now other = new Now();
            other.day = day;
            other.crossed = crossed;
            for (int a = 0; a < 8; a++) {
                other.promise[a] = promise[a].clone();
            }
            return other;
        }
    }

    private static final class Fault extends Exception {
        private static final long serialVersionUID = 1;
        final int place;

        Fault(int place) {
            this.place = place;
        }
    }

    private StringBuilder text = new StringBuilder();
    private int planks = 3;
    private List<Person> people = new ArrayList<>();
    private Now now = new Now();
    private final Deque<Now> past = new ArrayDeque<>();
    private Now[] images = new Now[2];
    private final List<Sight> seen = new ArrayList<>();
    private long trace = 0;

    int type(int letter) {
        if (letter < 0 || letter > 255) {
            return BAD;
        }
        if (text.length() == 120) {
            return FULL;
        }
        text.append((char) letter);
        return text.length();
    }

    int clear() {
        int had = text.length();
        text = new StringBuilder();
        return had;
    }

    int gorge() {
        Told told;
        try {
            told = read(text.toString());
        } catch (Fault fault) {
            return -10 - fault.place;
        }
        text = new StringBuilder();
        planks = told.planks;
        people = told.people;
        now = new Now();
        for (List<Integer> two : told.came) {
            now.promise[two.get(0)][two.get(1)] = CAME;
        }
        past.clear();
        images = new Now[2];
        seen.clear();
        return told.items;
    }

    private static Told read(String text) throws Fault {
        List<String> tokens = new ArrayList<>();
        List<Integer> places = new ArrayList<>();
        Matcher matcher = TOKEN.matcher(text);
        for (int from = 0; matcher.find(from); from = matcher.end()) {
            tokens.add(matcher.group());
            places.add(matcher.start());
        }
        tokens.add("");
        places.add(text.length());
        int planks = 3;
        int items = 0;
        List<Person> people = new ArrayList<>();
        Set<List<Integer>> came = new HashSet<>();
        for (int i = 0; !tokens.get(i).isEmpty(); items++) {
            String head = tokens.get(i);
            if (head.equals("n") && items == 0) {
                planks = number(tokens, places, i + 1, 1, 8);
                i += 2;
            } else if ((head.equals("u") || head.equals("v")) && people.size() < 8) {
                String kind = tokens.get(i + 1);
                if (kind.isEmpty() || !"pcsml".contains(kind)) {
                    throw new Fault(places.get(i + 1));
                }
                int word = number(tokens, places, i + 2, 1, 9);
                int slow = number(tokens, places, i + 3, 1, 5);
                people.add(new Person(head.equals("u") ? 0 : 1, kind.charAt(0), word, slow));
                i += 4;
            } else if (head.equals("x")) {
                int a = number(tokens, places, i + 1, 0, people.size() - 1);
                int p = number(tokens, places, i + 2, 0, planks - 1);
                if (!came.add(List.of(a, p))) {
                    throw new Fault(places.get(i + 2));
                }
                i += 3;
            } else {
                throw new Fault(places.get(i));
            }
            if (!tokens.get(i).equals(";")) {
                throw new Fault(places.get(i));
            }
            i++;
        }
        return new Told(planks, people, came, items);
    }

    private static int number(List<String> tokens, List<Integer> places, int i, int least, int most)
            throws Fault {
        String token = tokens.get(i);
        if (!token.matches("0|[1-9][0-9]?")) {
            throw new Fault(places.get(i));
        }
        int value = Integer.parseInt(token);
        if (value < least || value > most) {
            throw new Fault(places.get(i));
        }
        return value;
    }

    private boolean isPerson(int a) {
        return a >= 0 && a < people.size();
    }

    private boolean isPlank(int p) {
        return p >= 0 && p < planks;
    }

    private static boolean isLoad(int load) {
        return load >= 1 && load <= 36;
    }

    private int hold(Now at, int a, int p) {
        Person one = people.get(a);
        switch (one.kind) {
            case 'c':
                return one.word > 3 ? 3 : one.word;
            case 'm':
                return p % 2 == 1 ? one.word * 2 : one.word;
            case 'l':
                for (int b = 0; b < people.size(); b++) {
                    if (people.get(b).kind == 's' && at.promise[b][p] == CAME) {
                        return 0;
                    }
                }
                return one.word * 2;
            default:
                return one.word;
        }
    }

    private boolean stands(Now at, int a, int p, int bank) {
        return at.promise[a][p] == CAME && hold(at, a, p) > 0
            && (people.get(a).bank == bank || people.get(a).kind == 's');
    }

    private int bears(Now at, int p) {
        int best = 0;
        for (int a = 0; a < people.size(); a++) {
            for (int b = 0; b < people.size(); b++) {
                if (a != b && stands(at, a, p, 0) && stands(at, b, p, 1)) {
                    best = Math.max(best, hold(at, a, p) + hold(at, b, p));
                }
            }
        }
        return best;
    }

    private int bridge(Now at) {
        int least = bears(at, 0);
        for (int p = 1; p < planks; p++) {
            least = Math.min(least, bears(at, p));
        }
        return least;
    }

    private static Now without(Now at, int a) {
        Now other = at.copy();
        other.promise[a] = new int[8];
        return other;
    }

    int person(int a, int what) {
        if (!isPerson(a) || what < 0 || what > 7) {
            return BAD;
        }
        Person one = people.get(a);
        int came = 0;
        int under = 0;
        int falls = 0;
        for (int p = 0; p < planks; p++) {
            came += now.promise[a][p] == CAME ? 1 << p : 0;
            under += now.promise[a][p] > 0 ? 1 << p : 0;
            falls += bears(now, p) > 0 && bears(without(now, a), p) == 0 ? 1 << p : 0;
        }
        int worth = Math.max(0, bridge(now) - bridge(without(now, a)));
        return new int[] {one.bank, " pcsml".indexOf(one.kind), one.word, one.slow, came, under, falls, worth}[what];
    }

    int plank(int p, int what) {
        if (!isPlank(p) || what < 0 || what > 2) {
            return BAD;
        }
        if (what == 0) {
            return bears(now, p);
        }
        int bits = 0;
        for (int a = 0; a < people.size(); a++) {
            bits += stands(now, a, p, what - 1) ? 1 << a : 0;
        }
        return bits;
    }

    int hold(int a, int p) {
        return isPerson(a) && isPlank(p) ? hold(now, a, p) : BAD;
    }

    int now(int what) {
        int lie = 0;
        int under = 0;
        for (int p = 0; p < planks; p++) {
            lie += bears(now, p) > 0 ? 1 << p : 0;
            for (int a = 0; a < people.size(); a++) {
                under += now.promise[a][p] > 0 ? 1 : 0;
            }
        }
        int[] all = {now.day, bridge(now), lie, now.crossed, under, past.size()};
        return what >= 0 && what < all.length ? all[what] : BAD;
    }

    private void remember() {
        past.addLast(now.copy());
        if (past.size() > 10) {
            past.removeFirst();
        }
    }

    private int post(Now at, int a, int p) {
        int comes = at.day + people.get(a).slow;
        for (int b = 0; b < people.size(); b++) {
            if (at.promise[b][p] > 0 && people.get(b).bank != people.get(a).bank) {
                comes = at.day + people.get(a).slow + 1;
            }
        }
        at.promise[a][p] = comes;
        return comes;
    }

    private static int pass(Now at) {
        at.day++;
        int come = 0;
        for (int[] row : at.promise) {
            for (int p = 0; p < 8; p++) {
                if (row[p] == at.day) {
                    row[p] = CAME;
                    come++;
                }
            }
        }
        return come;
    }

    int promises(int a, int p) {
        if (!isPerson(a) || !isPlank(p)) {
            return BAD;
        }
        if (now.promise[a][p] != 0) {
            return STATE;
        }
        remember();
        return post(now, a, p);
    }

    int breaks(int a, int p) {
        if (!isPerson(a) || !isPlank(p)) {
            return BAD;
        }
        if (now.promise[a][p] == 0) {
            return STATE;
        }
        remember();
        now.promise[a][p] = 0;
        return bridge(now);
    }

    int days() {
        if (now.day == 999) {
            return STATE;
        }
        remember();
        return pass(now);
    }

    int crosses(int load) {
        if (!isLoad(load)) {
            return BAD;
        }
        if (bridge(now) < load || now.crossed == 999) {
            return STATE;
        }
        remember();
        now.crossed++;
        return now.crossed;
    }

    int undo() {
        if (past.isEmpty()) {
            return STATE;
        }
        now = past.removeLast();
        return past.size();
    }

    int when(int load) {
        if (!isLoad(load)) {
            return BAD;
        }
        Now later = now.copy();
        for (int ahead = 0; ahead <= 20; ahead++) {
            if (bridge(later) >= load) {
                return ahead;
            }
            pass(later);
        }
        return NONE;
    }

    /** Every choice of up to two people who gave none for a plank, as lists. */
    private List<List<Integer>> choices(int p) {
        List<List<Integer>> all = new ArrayList<>();
        all.add(List.of());
        for (int a = 0; a < people.size(); a++) {
            if (now.promise[a][p] == 0) {
                all.add(List.of(a));
                for (int b = 0; b < a; b++) {
                    if (now.promise[b][p] == 0) {
                        all.add(List.of(a, b));
                    }
                }
            }
        }
        return all;
    }

    private int more(int load, int p) {
        int fewest = NONE;
        for (List<Integer> choice : choices(p)) {
            Now as = now.copy();
            for (int a = 0; a < people.size(); a++) {
                if (as.promise[a][p] > 0 || choice.contains(a)) {
                    as.promise[a][p] = CAME;
                }
            }
            if (bears(as, p) >= load && (fewest == NONE || choice.size() < fewest)) {
                fewest = choice.size();
            }
        }
        return fewest;
    }

    int fewest(int load, int p) {
        if (!isLoad(load) || p != -1 && !isPlank(p)) {
            return BAD;
        }
        if (p >= 0) {
            return more(load, p);
        }
        int sum = 0;
        for (int q = 0; q < planks; q++) {
            if (more(load, q) == NONE) {
                return NONE;
            }
            sum += more(load, q);
        }
        return sum;
    }

    private boolean could(int load, int p, int ahead) {
        for (List<Integer> choice : choices(p)) {
            Now as = now.copy();
            for (int a : choice) {
                as.promise[a][p] = as.day + people.get(a).slow;
            }
            for (int i = 0; i < ahead; i++) {
                pass(as);
            }
            if (bears(as, p) >= load) {
                return true;
            }
        }
        return false;
    }

    int soon(int load) {
        if (!isLoad(load)) {
            return BAD;
        }
        for (int ahead = 0; ahead <= 20; ahead++) {
            boolean all = true;
            for (int p = 0; p < planks && all; p++) {
                all = could(load, p, ahead);
            }
            if (all) {
                return ahead;
            }
        }
        return NONE;
    }

    int pair(int a, int b, int p) {
        if (!isPerson(a) || !isPerson(b) || !isPlank(p)) {
            return BAD;
        }
        boolean under = false;
        for (int c = 0; c < people.size(); c++) {
            under |= now.promise[c][p] > 0;
        }
        if (people.get(a).bank == people.get(b).bank || now.promise[a][p] != 0 || now.promise[b][p] != 0 || under) {
            return STATE;
        }
        int best = Integer.MAX_VALUE;
        for (int[] order : new int[][] {{a, b}, {b, a}}) {
            for (int wait = 0; wait < 2; wait++) {
                Now as = now.copy();
                post(as, order[0], p);
                while (wait == 1 && as.promise[order[0]][p] != CAME) {
                    pass(as);
                }
                post(as, order[1], p);
                while (as.promise[a][p] != CAME || as.promise[b][p] != CAME) {
                    pass(as);
                }
                best = Math.min(best, as.day - now.day);
            }
        }
        return best;
    }

    int enough(int load) {
        if (!isLoad(load)) {
            return BAD;
        }
        for (int size = 0; size <= people.size(); size++) {
            for (int set = 0; set < 1 << people.size(); set++) {
                Now as = new Now();
                for (int i = 0; i < 64; i++) {
                    as.promise[i / 8][i % 8] = i % 8 < planks && (set >> i / 8) % 2 == 1 ? CAME : 0;
                }
                if (Integer.bitCount(set) == size && bridge(as) >= load) {
                    return set;
                }
            }
        }
        return NONE;
    }

    private int held(int load, int p, Set<Integer> used) {
        if (p == planks) {
            return 0;
        }
        int best = held(load, p + 1, used);
        for (int a = 0; a < people.size(); a++) {
            for (int b = 0; b < a; b++) {
                Now as = new Now();
                as.promise[a][p] = CAME;
                as.promise[b][p] = CAME;
                if (!used.contains(a) && !used.contains(b) && bears(as, p) >= load) {
                    Set<Integer> more = new HashSet<>(used);
                    more.add(a);
                    more.add(b);
                    best = Math.max(best, 1 + held(load, p + 1, more));
                }
            }
        }
        return best;
    }

    int friends(int load) {
        return isLoad(load) ? held(load, 0, Set.of()) : BAD;
    }

    private int turn(Now at, int left, boolean breaks) {
        if (left == 0 || people.isEmpty()) {
            return bridge(at);
        }
        int best = breaks ? Integer.MAX_VALUE : turn(at, left - 1, true);
        for (int a = 0; a < people.size(); a++) {
            if (breaks) {
                best = Math.min(best, turn(without(at, a), left - 1, false));
                continue;
            }
            for (int p = 0; p < planks; p++) {
                Now as = at.copy();
                as.promise[a][p] = CAME;
                best = Math.max(best, turn(as, left - 1, true));
            }
        }
        return best;
    }

    int byTurns(int n) {
        return n >= 0 && n <= 3 ? turn(now, n, true) : BAD;
    }

    private BigInteger chances(Now at, int a, int x, int load) {
        if (a == people.size()) {
            return bridge(at) >= load ? BigInteger.ONE : BigInteger.ZERO;
        }
        return chances(without(at, a), a + 1, x, load).multiply(BigInteger.valueOf(x))
            .add(chances(at, a + 1, x, load).multiply(BigInteger.valueOf(10 - x)));
    }

    int odds(int x, int load, int what) {
        if (x < 0 || x > 10 || !isLoad(load) || what < 0 || what > 1) {
            return BAD;
        }
        BigInteger upper = chances(now, 0, x, load);
        BigInteger lower = BigInteger.TEN.pow(people.size());
        return (what == 0 ? upper : lower).divide(upper.gcd(lower)).intValueExact();
    }

    int winter(int n, int seed, int load) {
        if (n < 0 || n > 60 || seed < 1 || seed > 999999 || !isLoad(load)) {
            return BAD;
        }
        Now as = now.copy();
        BigInteger x = BigInteger.valueOf(seed);
        int often = 0;
        for (int i = 0; i < n; i++) {
            x = x.multiply(BigInteger.valueOf(16807)).mod(BigInteger.valueOf(2147483647));
            if (!people.isEmpty()) {
                int a = x.intValueExact() % people.size();
                int p = x.intValueExact() / 8 % planks;
                if (as.promise[a][p] != 0) {
                    as.promise[a][p] = 0;
                } else {
                    post(as, a, p);
                }
            }
            pass(as);
            often += bridge(as) >= load ? 1 : 0;
        }
        return often;
    }

    int sees(int load, int over) {
        if (!isLoad(load) || over < 0 || over > 1) {
            return BAD;
        }
        if (seen.size() == 6) {
            return FULL;
        }
        seen.add(new Sight(load, over == 1));
        return seen.size();
    }

    int forget() {
        int had = seen.size();
        seen.clear();
        return had;
    }

    private int bridgeByWord(int a, int word) {
        Person as = people.get(a);
        people.set(a, new Person(as.bank, as.kind, word, as.slow));
        int bears = bridge(now);
        people.set(a, as);
        return bears;
    }

    private List<Integer> possible(int a) {
        List<Integer> words = new ArrayList<>();
        for (int word = 1; word <= 9; word++) {
            int bears = bridgeByWord(a, word);
            if (seen.stream().allMatch(sight -> sight.over == (bears >= sight.load))) {
                words.add(word);
            }
        }
        return words;
    }

    int words(int a, int what) {
        if (!isPerson(a) || what < 0 || what > 2) {
            return BAD;
        }
        List<Integer> all = possible(a);
        if (what == 0) {
            return all.size();
        }
        return all.isEmpty() ? NONE : all.get(what == 1 ? 0 : all.size() - 1);
    }

    int next(int a) {
        if (!isPerson(a)) {
            return BAD;
        }
        List<Integer> all = possible(a);
        int best = NONE;
        int smallest = Integer.MAX_VALUE;
        for (int load = 1; load <= 36 && all.size() > 1; load++) {
            int over = 0;
            for (int word : all) {
                over += bridgeByWord(a, word) >= load ? 1 : 0;
            }
            int greater = Math.max(over, all.size() - over);
            if (greater < smallest) {
                smallest = greater;
                best = load;
            }
        }
        return best;
    }

    int rate(int kind, int a) {
        if (kind < 0 || kind > 5 || !isPerson(a)) {
            return NO;
        }
        int came = 0;
        int gave = 0;
        for (int p = 0; p < planks; p++) {
            came += now.promise[a][p] == CAME ? 1 : 0;
            gave += now.promise[a][p] != 0 ? 1 : 0;
        }
        Person one = people.get(a);
        trace += new int[] {1, 11, 111, 1001, 10001, 110001}[kind];
        int plain = one.word + one.slow;
        int merchant = one.word - gave;
        return new int[] {one.word, plain, 2 * plain, one.word + came, merchant, 3 * merchant + a}[kind];
    }

    int keep(int image) {
        if (image < 0 || image > 1) {
            return BAD;
        }
        images[image] = now.copy();
        return now.day;
    }

    int back(int image) {
        if (image < 0 || image > 1) {
            return BAD;
        }
        if (images[image] == null) {
            return STATE;
        }
        now = images[image].copy();
        past.clear();
        return now.day;
    }

    int count(int what) {
        int[] all = {planks, people.size(), seen.size(), text.length()};
        return what >= 0 && what < all.length ? all[what] : BAD;
    }

    long trace() {
        return trace;
    }
}
