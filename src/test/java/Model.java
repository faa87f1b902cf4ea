import java.util.ArrayList;
import java.util.Arrays;
import java.util.HashSet;
import java.util.List;
import java.util.Set;

/** The document said once more, as slow and as unlike the class as may be, so that the two can be compared. */
final class Model {
    private static final class Fault extends RuntimeException {
        private static final long serialVersionUID = 1L;
        final int code;

        Fault(int number, int place) {
            code = -1000 * number - place;
        }
    }

    private static final class Refused extends RuntimeException {
        private static final long serialVersionUID = 1L;
    }

    private static final class Person implements Cloneable {
        int number;
        int weight;
        int claim;
        boolean over;
        int baths;
        int hurt;

        Person copy() {
            Person other = new Person();
            other.number = number;
            other.weight = weight;
            other.claim = claim;
            other.over = over;
            other.baths = baths;
            other.hurt = hurt;
            return other;
        }
    }

    private static final class State {
        Person[] people = new Person[16];
        int hour = 0;
        int x = 1;

        State copy() {
            State other = new State();
            for (int p = 0; p < 16; p++) {
                other.people[p] = people[p] == null ? null : people[p].copy();
            }
            other.hour = hour;
            other.x = x;
            return other;
        }
    }

    private State state = new State();
    private State kept = null;
    private int tolerance = 0;
    private int toe = 5;
    private String tape = "";
    private String law = "";
    private String weighings = "";
    private int gotOver;
    private int bathed;
    private int flung;
    private int toes;

    boolean walker(int p, int weight) {
        if (p < 0 || p > 15 || weight < 1 || weight > 999) {
            return false;
        }
        Person one = new Person();
        one.number = p;
        one.weight = weight;
        one.claim = weight;
        state.people[p] = one;
        return true;
    }

    boolean rules(int newTolerance, int newToe) {
        if (newTolerance < 0 || newTolerance > 99 || newToe < 0 || newToe > 99) {
            return false;
        }
        tolerance = newTolerance;
        toe = newToe;
        return true;
    }

    int feed(int... five) {
        if (tape.length() + 20 > 260) {
            return -1;
        }
        StringBuilder more = new StringBuilder(tape);
        for (int one : five) {
            for (int k = 3; k >= 0; k--) {
                more.append((char) (one >>> 8 * k & 255));
            }
        }
        tape = more.toString();
        return tape.length();
    }

    private String takeText(int n, int most) {
        if (n < 1 || n > most || n > tape.length()) {
            return null;
        }
        String text = tape.substring(0, n);
        tape = "";
        return text;
    }

    private static int lines(String text) {
        return text.isEmpty() ? 0 : text.split(";").length;
    }

    // ---- the law: read and asked on its text

    private String text;
    private int at;
    private Person asked;
    private State askedIn;

    private int sign() {
        return at < text.length() ? text.charAt(at) : -1;
    }

    private void want(int wanted) {
        if (sign() != wanted) {
            throw new Fault(1, at);
        }
        at++;
    }

    int law(int n) {
        String fresh = takeText(n, 240);
        if (fresh == null) {
            return -1;
        }
        try {
            text = fresh;
            at = 0;
            asked = null;
            int rules = 0;
            do {
                if (rules > 0) {
                    want(';');
                }
                if (sign() < 0 || "grfebwl".indexOf(sign()) < 0) {
                    throw new Fault(1, at);
                }
                if (rules == 16) {
                    throw new Fault(4, at);
                }
                boolean hasE = sign() != 'g' && sign() != 'r';
                at++;
                if (hasE) {
                    e(0, false);
                }
                want('(');
                c(1, false);
                want(')');
                rules++;
            } while (at < text.length());
            law = fresh;
            return rules;
        } catch (Fault fault) {
            return fault.code;
        }
    }

    private void open(int depth) {
        if (depth >= 6) {
            throw new Fault(5, at);
        }
        at++;
    }

    private boolean c(int depth, boolean live) {
        boolean any = part(depth, live);
        while (sign() == '|') {
            at++;
            boolean next = part(depth, live && !any);
            any = any || next;
        }
        return any;
    }

    private boolean part(int depth, boolean live) {
        boolean all = test(depth, live);
        while (sign() == '&') {
            at++;
            boolean next = test(depth, live && all);
            all = all && next;
        }
        return all;
    }

    private boolean test(int depth, boolean live) {
        if (sign() == '!') {
            open(depth);
            return !test(depth + 1, live);
        }
        if (sign() == '(') {
            open(depth);
            boolean inner = c(depth + 1, live);
            want(')');
            return inner;
        }
        int left = e(depth, live);
        int compare = sign();
        if (compare != '<' && compare != '>' && compare != '=') {
            throw new Fault(1, at);
        }
        at++;
        int right = e(depth, live);
        return compare == '<' ? left < right : compare == '>' ? left > right : left == right;
    }

    private int e(int depth, boolean live) {
        int sum = term(depth, live);
        while (sign() == '+' || sign() == '-') {
            int how = sign();
            at++;
            int next = term(depth, live);
            sum = how == '+' ? sum + next : sum - next;
        }
        return sum;
    }

    private int term(int depth, boolean live) {
        int product = factor(depth, live);
        while (sign() == '*' || sign() == '/' || sign() == '%') {
            int how = sign();
            at++;
            int next = factor(depth, live);
            if (how == '*') {
                product *= next;
            } else if (live) {
                if (next == 0) {
                    throw new Refused();
                }
                product = how == '/' ? product / next : product % next;
            }
        }
        return product;
    }

    private int factor(int depth, boolean live) {
        if (sign() == '[') {
            open(depth);
            int inner = e(depth + 1, live);
            want(']');
            return inner;
        }
        if (sign() >= '0' && sign() <= '9') {
            int from = at;
            while (sign() >= '0' && sign() <= '9') {
                if (at - from == 5) {
                    throw new Fault(2, at);
                }
                at++;
            }
            return Integer.parseInt(text.substring(from, at));
        }
        if (sign() < 0 || "pvcondht".indexOf(sign()) < 0) {
            throw new Fault(1, at);
        }
        char letter = (char) sign();
        at++;
        return asked == null ? 1 : fact(letter);
    }

    private int fact(char letter) {
        switch (letter) {
            case 'p': return asked.number;
            case 'v': return asked.weight;
            case 'c': return asked.claim;
            case 'o': return asked.over ? 1 : 0;
            case 'n': return bits(askedIn, true).size();
            case 'd': return asked.baths;
            case 'h': return asked.hurt;
            default: return askedIn.hour % 100;
        }
    }

    private boolean holds(String condition) {
        try {
            text = condition;
            at = 0;
            return c(1, true);
        } catch (Refused refused) {
            return false;
        }
    }

    private int reckon(String number) {
        try {
            text = number;
            at = 0;
            return e(0, true);
        } catch (Refused refused) {
            return 0;
        }
    }

    /** What the first such rule that holds says (1 for g and r); null if none does. */
    private Integer say(char kind) {
        for (String rule : law.split(";")) {
            if (rule.isEmpty() || rule.charAt(0) != kind) {
                continue;
            }
            int bracket = rule.indexOf('(');
            if (holds(rule.substring(bracket + 1, rule.length() - 1))) {
                return bracket == 1 ? 1 : reckon(rule.substring(1, bracket));
            }
        }
        return null;
    }

    private int say(char kind, int most) {
        Integer said = say(kind);
        return said == null ? 0 : Math.min(most, Math.max(0, said));
    }

    // ---- orders and weighings

    int orders(int n) {
        String fresh = takeText(n, 120);
        if (fresh == null) {
            return -1;
        }
        try {
            readOrders(fresh);
        } catch (Fault fault) {
            return fault.code;
        }
        for (String line : fresh.split(";")) {
            Person one = state.people[line.charAt(0) - 'a'];
            int number = line.length() > 2 ? Integer.parseInt(line.substring(2)) : 0;
            switch (line.charAt(1)) {
                case '=': one.weight = number; break;
                case '?': one.claim = number; break;
                case '+': one.weight = Math.min(999, one.weight + number); break;
                case '-': one.weight = Math.max(1, one.weight - number); break;
                case '>': one.over = true; break;
                default: one.over = false; break;
            }
        }
        return lines(fresh);
    }

    /** As a machine of states: 0 a letter, 1 a sign, 2 a first digit, 3 more digits or the end, 4 the end of a line. */
    private void readOrders(String fresh) {
        int mode = 0;
        int line = 1;
        int from = 0;
        char deed = 0;
        for (int k = 0; k <= fresh.length(); k++) {
            int sign = k < fresh.length() ? fresh.charAt(k) : -1;
            boolean isDigit = sign >= '0' && sign <= '9';
            if (mode == 3 && isDigit) {
                if (k - from == 3) {
                    throw new Fault(2, k);
                }
                continue;
            }
            if (mode == 3) {
                if ("=?".indexOf(deed) >= 0 && Integer.parseInt(fresh.substring(from, k)) == 0) {
                    throw new Fault(3, from);
                }
                mode = 4;
            }
            if (mode == 4) {
                if (sign == -1) {
                    return;
                }
                if (sign != ';') {
                    throw new Fault(1, k);
                }
                line++;
                mode = 0;
            } else if (mode == 0) {
                if (sign < 'a' || sign > 'p') {
                    throw new Fault(1, k);
                }
                if (line > 20) {
                    throw new Fault(4, k);
                }
                if (state.people[sign - 'a'] == null) {
                    throw new Fault(7, k);
                }
                mode = 1;
            } else if (mode == 1) {
                if (sign < 0 || "=?+-<>".indexOf(sign) < 0) {
                    throw new Fault(1, k);
                }
                deed = (char) sign;
                mode = deed == '<' || deed == '>' ? 4 : 2;
            } else {
                if (!isDigit) {
                    throw new Fault(1, k);
                }
                from = k;
                mode = 3;
            }
        }
    }

    int weighings(int n) {
        String fresh = takeText(n, 120);
        if (fresh == null) {
            return -1;
        }
        int line = 1;
        int letters = 0;
        boolean isRight = false;
        Set<Character> seen = new HashSet<>();
        for (int k = 0; k <= fresh.length(); k++) {
            char sign = k < fresh.length() ? fresh.charAt(k) : ';';
            if (sign >= 'a' && sign <= 'p') {
                if (line > 16) {
                    return -4000 - k;
                }
                if (!seen.add(sign)) {
                    return -6000 - k;
                }
                letters++;
            } else if ("<>=".indexOf(sign) >= 0 && !isRight && letters > 0) {
                isRight = true;
                letters = 0;
            } else if (sign == ';' && isRight && letters > 0) {
                isRight = false;
                letters = 0;
                seen.clear();
                line++;
            } else {
                return -1000 - k;
            }
        }
        weighings = fresh;
        return lines(fresh);
    }

    // ---- hours

    private void pass(State in, int n) {
        gotOver = 0;
        bathed = 0;
        flung = 0;
        toes = 0;
        askedIn = in;
        for (int k = 0; k < n && in.hour < 9999; k++) {
            for (Person one : in.people) {
                if (one != null) {
                    asked = one;
                    step(in, one);
                }
            }
            in.hour++;
        }
    }

    private void step(State in, Person one) {
        int more = say('w', 99);
        int less = say('l', 99);
        one.weight = Math.max(1, Math.min(999, one.weight + more - less));
        if (one.over) {
            one.over = say('r') == null;
            return;
        }
        if (say('g') == null) {
            return;
        }
        int load = say('e', 999);
        if (say('f') != null) {
            Person friend = in.people[say('f', 15)];
            if (friend != null && friend != one && !friend.over) {
                load += friend.weight;
            }
        }
        in.x = (int) ((25173L * in.x + 13849) % 65536);
        if (in.x % 10 < say('b', 10)) {
            load += toe;
            toes++;
        }
        if (one.weight - load > tolerance) {
            one.baths = Math.min(999, one.baths + 1);
            bathed++;
            return;
        }
        one.over = true;
        gotOver++;
        if (load - one.weight > tolerance) {
            one.hurt = Math.min(9999, one.hurt + load - one.weight);
            flung++;
        }
    }

    int hours(int n) {
        if (n < 1 || n > 240) {
            return -1;
        }
        pass(state, n);
        return gotOver;
    }

    int tried(int n, int what) {
        boolean ofOne = what >= 100 && what < 116 || what >= 200 && what < 216;
        if (n < 1 || n > 240 || (what < 0 || what > 4) && !ofOne || ofOne && state.people[what % 100] == null) {
            return -1;
        }
        State other = state.copy();
        pass(other, n);
        if (ofOne) {
            return what < 200 ? other.people[what % 100].weight : other.people[what % 100].hurt;
        }
        return new int[] {gotOver, bathed, flung, bits(other, true).size(), toes}[what];
    }

    // ---- walkers

    private Person person(int p) {
        return p < 0 || p > 15 ? null : state.people[p];
    }

    int walkerIs(int p, int what) {
        Person one = person(p);
        if (one == null || what < 0 || what > 4) {
            return -1;
        }
        return new int[] {one.weight, one.claim, one.over ? 1 : 0, one.baths, one.hurt}[what];
    }

    private static List<Integer> bits(State in, boolean over) {
        List<Integer> found = new ArrayList<>();
        for (int p = 0; p < 16; p++) {
            if (in.people[p] != null && in.people[p].over == over) {
                found.add(p);
            }
        }
        return found;
    }

    private List<Integer> toldOnes() {
        List<Integer> found = bits(state, true);
        found.addAll(bits(state, false));
        found.sort(null);
        return found;
    }

    private static int mask(List<Integer> of) {
        int mask = 0;
        for (int p : of) {
            mask |= 1 << p;
        }
        return mask;
    }

    private int weightOf(int set) {
        int sum = 0;
        for (int p = 0; p < 16; p++) {
            sum += (set >> p & 1) == 0 ? 0 : state.people[p].weight;
        }
        return sum;
    }

    int standsFor(int p, int what) {
        Person one = person(p);
        if (one == null || what < 0 || what > 1) {
            return -1;
        }
        int free = mask(bits(state, false)) & ~(1 << p);
        long best = Long.MAX_VALUE;
        for (int set = 0; set < 65536; set++) {
            if ((set & ~free) == 0) {
                long off = Math.abs(weightOf(set) - one.weight);
                best = Math.min(best, (off * 100 + Integer.bitCount(set)) * 65536 + set);
            }
        }
        return what == 0 ? (int) (best % 65536) : (int) (best / 65536 / 100);
    }

    int colonel(int p, int k) {
        Person one = person(p);
        if (one == null || k < 1 || k > 15) {
            return -1;
        }
        List<Integer> free = bits(state, false);
        free.remove(Integer.valueOf(p));
        return ways(free, 0, k, one.weight);
    }

    private int ways(List<Integer> free, int from, int k, int lacking) {
        if (k == 0) {
            return Math.abs(lacking) <= tolerance ? 1 : 0;
        }
        int found = 0;
        for (int next = from; next < free.size(); next++) {
            found += ways(free, next + 1, k - 1, lacking - state.people[free.get(next)].weight);
        }
        return found;
    }

    int party(int walkers, int stone, int what) {
        if (walkers < 1 || walkers > 65535 || Integer.bitCount(walkers) > 8 || stone < 0 || stone > 999
                || (what < 0 || what > 7) && what != 100) {
            return -1;
        }
        if ((walkers & ~mask(bits(state, false))) != 0) {
            return -2;
        }
        List<Integer> best = new ArrayList<>();
        goOn(walkers, stone, new ArrayList<>(), best);
        if (what == 100) {
            return best.size();
        }
        return what < best.size() ? best.get(what) : -4;
    }

    private void goOn(int still, int stone, List<Integer> gone, List<Integer> best) {
        if (gone.size() > best.size()) {
            best.clear();
            best.addAll(gone);
        }
        for (int p = 0; p < 16; p++) {
            if ((still >> p & 1) != 0 && balances(still & ~(1 << p), 0, state.people[p].weight, stone)) {
                gone.add(p);
                goOn(still & ~(1 << p), stone, gone, best);
                gone.remove(gone.size() - 1);
            }
        }
    }

    private boolean balances(int free, int from, int lacking, int stone) {
        if (Math.abs(lacking) <= tolerance || Math.abs(lacking - stone) <= tolerance) {
            return true;
        }
        for (int p = from; p < 16; p++) {
            if ((free >> p & 1) != 0 && balances(free, p + 1, lacking - state.people[p].weight, stone)) {
                return true;
            }
        }
        return false;
    }

    int pairs(int apart) {
        if (apart < 0 || apart > 999) {
            return -1;
        }
        int[] memo = new int[65536];
        Arrays.fill(memo, -1);
        return twos(mask(toldOnes()), apart, memo);
    }

    private int twos(int free, int apart, int[] memo) {
        if (free == 0) {
            return 0;
        }
        if (memo[free] < 0) {
            int p = Integer.numberOfTrailingZeros(free);
            int rest = free & free - 1;
            int best = twos(rest, apart, memo);
            for (int q = p + 1; q < 16; q++) {
                if ((rest >> q & 1) != 0 && Math.abs(state.people[p].weight - state.people[q].weight) <= apart) {
                    best = Math.max(best, 1 + twos(rest & ~(1 << q), apart, memo));
                }
            }
            memo[free] = best;
        }
        return memo[free];
    }

    int liars(int what) {
        if (what < 0 || what > 2) {
            return -1;
        }
        int who = 0;
        int greatest = 0;
        int whose = -2;
        for (int p = 15; p >= 0; p--) {
            Person one = state.people[p];
            if (one != null && one.claim != one.weight) {
                who |= 1 << p;
                int lie = Math.abs(one.claim - one.weight);
                if (lie >= greatest) {
                    greatest = lie;
                    whose = p;
                }
            }
        }
        return new int[] {who, greatest, whose}[what];
    }

    int teams(int what) {
        if (what < 0 || what > 1) {
            return -1;
        }
        int all = mask(toldOnes());
        if (all == 0) {
            return 0;
        }
        long best = Long.MAX_VALUE;
        for (int team = 0; team < 65536; team++) {
            if ((team & ~all) == 0 && (team & Integer.lowestOneBit(all)) != 0) {
                best = Math.min(best, Math.abs(weightOf(team) - weightOf(all & ~team)) * 65536L + team);
            }
        }
        return (int) (what == 0 ? best / 65536 : best % 65536);
    }

    int share(int toll, int p) {
        if (person(p) == null || toll < 0 || toll > 99999) {
            return -1;
        }
        int all = mask(toldOnes());
        long total = weightOf(all);
        List<Integer> row = toldOnes();
        row.sort((a, b) -> Long.compare(toll * (long) weightOf(1 << b) % total, toll * (long) weightOf(1 << a) % total));
        long left = toll;
        for (int q : row) {
            left -= toll * (long) weightOf(1 << q) / total;
        }
        long own = toll * (long) weightOf(1 << p) / total;
        return (int) (own + (row.indexOf(p) < left ? 1 : 0));
    }

    // ---- what weighings tell

    private static int side(String letters) {
        int bits = 0;
        for (char letter : letters.toCharArray()) {
            bits |= 1 << letter - 'a';
        }
        return bits;
    }

    /** Left side, right side, and -1, 0 or 1 for < = >, of each line. */
    private List<int[]> told() {
        List<int[]> found = new ArrayList<>();
        for (String line : weighings.isEmpty() ? new String[0] : weighings.split(";")) {
            String[] sides = line.split("[<>=]");
            int how = line.indexOf('<') > 0 ? -1 : line.indexOf('>') > 0 ? 1 : 0;
            found.add(new int[] {side(sides[0]), side(sides[1]), how});
        }
        return found;
    }

    private int named() {
        int bits = 0;
        for (int[] line : told()) {
            bits |= line[0] | line[1];
        }
        return bits;
    }

    int areTrue(int what) {
        if (what < 0 || what > 3) {
            return -1;
        }
        int so = 0;
        int first = -2;
        List<int[]> told = told();
        for (int k = 0; k < told.size(); k++) {
            int difference = 0;
            boolean aside = false;
            for (int p = 0; p < 16; p++) {
                int factor = (told.get(k)[0] >> p & 1) - (told.get(k)[1] >> p & 1);
                if (factor != 0 && state.people[p] == null) {
                    aside = true;
                } else if (factor != 0) {
                    difference += factor * (what % 2 == 0 ? state.people[p].weight : state.people[p].claim);
                }
            }
            if (!aside && Integer.signum(difference) == told.get(k)[2]) {
                so++;
            } else if (!aside && first == -2) {
                first = k;
            }
        }
        return what < 2 ? so : first;
    }

    int odd(int what) {
        if (what < 0 || what > 2) {
            return -1;
        }
        if (what == 2) {
            return fits(-1, 0) ? 1 : 0;
        }
        int bits = 0;
        for (int p = 0; p < 16; p++) {
            if ((named() >> p & 1) != 0 && fits(p, what == 0 ? 7 : -7)) {
                bits |= 1 << p;
            }
        }
        return bits;
    }

    private boolean fits(int oddOne, int by) {
        for (int[] line : told()) {
            if (Integer.bitCount(line[0]) == Integer.bitCount(line[1])) {
                int difference = 0;
                for (int p = 0; p < 16; p++) {
                    difference += ((line[0] >> p & 1) - (line[1] >> p & 1)) * (p == oddOne ? 100 + by : 100);
                }
                if (Integer.signum(difference) != line[2]) {
                    return false;
                }
            }
        }
        return true;
    }

    int heavier(int p, int what) {
        if (p < 0 || p > 15 || what < 0 || what > 1) {
            return -1;
        }
        boolean[][] heavier = new boolean[16][16];
        boolean[][] alike = new boolean[16][16];
        for (int k = 0; k < 16; k++) {
            alike[k][k] = true;
        }
        for (int[] line : told()) {
            if (Integer.bitCount(line[0]) == 1 && Integer.bitCount(line[1]) == 1) {
                int a = Integer.numberOfTrailingZeros(line[0]);
                int b = Integer.numberOfTrailingZeros(line[1]);
                alike[a][b] |= line[2] == 0;
                alike[b][a] |= line[2] == 0;
                heavier[a][b] |= line[2] > 0;
                heavier[b][a] |= line[2] < 0;
            }
        }
        for (int round = 0; round < 16; round++) {
            for (int a = 0; a < 16; a++) {
                for (int b = 0; b < 16; b++) {
                    for (int c = 0; c < 16; c++) {
                        alike[a][c] |= alike[a][b] && alike[b][c];
                        heavier[a][c] |= heavier[a][b] && (heavier[b][c] || alike[b][c]) || alike[a][b] && heavier[b][c];
                    }
                }
            }
        }
        int bits = 0;
        for (int k = 0; k < 16; k++) {
            if (heavier[k][k]) {
                return -3;
            }
            bits |= (what == 0 ? heavier[p][k] : alike[p][k]) ? 1 << k : 0;
        }
        return bits;
    }

    // ---- stones and rows

    private int[] takeBytes(int n, int least, int most) {
        if (n < least || n > most || n > tape.length()) {
            return null;
        }
        int[] bytes = new int[n];
        for (int k = 0; k < n; k++) {
            bytes[k] = tape.charAt(k);
        }
        tape = "";
        return bytes;
    }

    private static boolean hasZero(int[] bytes) {
        return Arrays.stream(bytes).anyMatch(one -> one == 0);
    }

    int stones(int n, boolean both) {
        int[] bytes = takeBytes(n, 1, 8);
        if (bytes == null || hasZero(bytes)) {
            return bytes == null ? -1 : -2;
        }
        Set<Integer> sums = new HashSet<>(Set.of(0));
        for (int one : bytes) {
            for (int sum : new ArrayList<>(sums)) {
                sums.add(sum + one);
                if (both) {
                    sums.add(sum - one);
                }
            }
        }
        int upTo = 0;
        while (sums.contains(upTo + 1)) {
            upTo++;
        }
        return upTo;
    }

    int fewest(int n, int weight) {
        if (weight < 1 || weight > 2040) {
            return -1;
        }
        int[] bytes = takeBytes(n, 1, 8);
        if (bytes == null || hasZero(bytes)) {
            return bytes == null ? -1 : -3;
        }
        int least = 99;
        int all = (int) Math.pow(3, n);
        for (int way = 0; way < all; way++) {
            int sum = 0;
            int used = 0;
            int rest = way;
            for (int one : bytes) {
                sum += (rest % 3 - 1) * one;
                used += rest % 3 == 1 ? 0 : 1;
                rest /= 3;
            }
            least = sum == weight ? Math.min(least, used) : least;
        }
        return least == 99 ? -2 : least;
    }

    int seesaw(int n) {
        int[] bytes = takeBytes(n, 1, 5);
        if (bytes == null || hasZero(bytes)) {
            return bytes == null ? -1 : -2;
        }
        return even(bytes, 0, new ArrayList<>(List.of(-5, -4, -3, -2, -1, 1, 2, 3, 4, 5)), 0);
    }

    private int even(int[] bytes, int k, List<Integer> places, int turn) {
        if (k == bytes.length) {
            return Math.abs(turn);
        }
        int least = Integer.MAX_VALUE;
        for (int j = 0; j < places.size(); j++) {
            int place = places.remove(j);
            least = Math.min(least, even(bytes, k + 1, places, turn + place * bytes[k]));
            places.add(j, place);
        }
        return least;
    }

    int row(int n, int what) {
        if (what < 0 || what > 1) {
            return -1;
        }
        int[] bytes = takeBytes(n, 1, 16);
        if (bytes == null) {
            return -1;
        }
        int most = 0;
        for (int set = 1; set < 1 << n; set++) {
            int lowest = Integer.lowestOneBit(set);
            boolean sideBySide = (set + lowest & set) == 0;
            if ((what == 0 || sideBySide) && Integer.bitCount(set) > most && rises(bytes, set)) {
                most = Integer.bitCount(set);
            }
        }
        return what == 0 ? n - most : most;
    }

    private static boolean rises(int[] bytes, int set) {
        int last = -1;
        for (int k = 0; k < bytes.length; k++) {
            if ((set >> k & 1) != 0) {
                if (bytes[k] < last) {
                    return false;
                }
                last = bytes[k];
            }
        }
        return true;
    }

    int falseOne(int n, boolean heavy) {
        if (n < 1 || n > 9999) {
            return -1;
        }
        if (heavy) {
            return n == 1 ? 0 : 1 + falseOne((n + 2) / 3, true);
        }
        if (n < 3) {
            return -2;
        }
        int w = 1;
        while ((Math.pow(3, w) - 3) / 2 < n) {
            w++;
        }
        return w;
    }

    int scales(int n, int sides, int what) {
        if (sides < 0 || sides > 1023 || what < 0 || what > 1) {
            return -1;
        }
        int[] bytes = takeBytes(n, 1, 10);
        if (bytes == null) {
            return -1;
        }
        int[] pans = new int[2];
        int times = 0;
        int most = 0;
        for (int one : bytes) {
            pans[sides % 2] += one;
            sides /= 2;
            if (pans[1] > pans[0]) {
                times++;
                most = Math.max(most, pans[1] - pans[0]);
            }
        }
        return what == 0 ? times : most;
    }

    // ---- what is kept and counted

    boolean seed(int x) {
        if (x < 0 || x > 65535) {
            return false;
        }
        state.x = x;
        return true;
    }

    int keep() {
        kept = state.copy();
        return state.hour;
    }

    boolean undo() {
        if (kept == null) {
            return false;
        }
        state = kept.copy();
        return true;
    }

    int check(int n) {
        int[] bytes = takeBytes(n, 0, 16);
        if (bytes == null) {
            return -2;
        }
        for (int p = 0; p < n; p++) {
            if (bytes[p] != (state.people[p] == null ? 0 : state.people[p].weight % 256)) {
                return p;
            }
        }
        return -1;
    }

    int count(int what) {
        int baths = 0;
        for (int p : toldOnes()) {
            baths += state.people[p].baths;
        }
        switch (what) {
            case 0: return state.hour;
            case 1: return mask(toldOnes());
            case 2: return mask(bits(state, true));
            case 3: return lines(weighings);
            case 4: return lines(law);
            case 5: return tape.length();
            case 6: return state.x;
            case 7: return tolerance;
            case 8: return toe;
            case 9: return named();
            case 10: return baths;
            case 11: return weightOf(mask(toldOnes()));
            default: return -1;
        }
    }
}
