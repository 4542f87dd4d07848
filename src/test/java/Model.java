import java.util.ArrayList;
import java.util.HashMap;
import java.util.HashSet;
import java.util.List;
import java.util.Map;
import java.util.Set;
import java.util.TreeSet;

/**
 * The document once more, as plainly as it can be said and without care for speed: nothing is kept but what was
 * told, and each answer is worked out anew. ModelTest compares Factloom with it.
 */
final class Model {
    private static final class Row {
        private final int triple;
        private int trust;
        private final int from;
        private int till = Integer.MAX_VALUE;

        Row(int triple, int trust, int from) {
            this.triple = triple;
            this.trust = trust;
            this.from = from;
        }

        Row copy() {
            Row row = new Row(triple, trust, from);
            row.till = till;
            return row;
        }

        boolean holdsIn(int moment) {
            return from <= moment && moment < till;
        }
    }

    private record Way(int rule, int number, int made, List<Integer> of) {
    }

    private final int[] head = {0, 1, 2, 3, 4, 5};
    private final Set<Integer> singles = new TreeSet<>();
    private List<Row> rows = new ArrayList<>();
    private final List<int[]> batch = new ArrayList<>();
    private final List<int[]> rules = new ArrayList<>();
    private final List<Integer> patterns = new ArrayList<>();
    private int not = -1;
    private int moment = 0;

    // numbers

    private static boolean isTriple(int n) {
        return n >= 0 && n <= 999 && n / 100 < 6 && n / 10 % 10 < 6 && n % 10 < 6;
    }

    private static boolean isPattern(int n) {
        return n >= 0 && n <= 999;
    }

    private static boolean isWord(int n) {
        return n >= 0 && n <= 5;
    }

    private static Set<Integer> letters(int... patterns) {
        Set<Integer> found = new TreeSet<>();
        for (int pattern : patterns) {
            for (int rest = pattern, k = 0; pattern >= 0 && k < 3; k++, rest /= 10) {
                if (rest % 10 > 5) {
                    found.add(rest % 10);
                }
            }
        }
        return found;
    }

    private static void argument(boolean is) {
        if (!is) {
            throw new IllegalArgumentException();
        }
    }

    private static void state(boolean is) {
        if (!is) {
            throw new IllegalStateException();
        }
    }

    private static void index(boolean is) {
        if (!is) {
            throw new IndexOutOfBoundsException();
        }
    }

    // words

    private int byHeads(int triple) {
        return head[triple / 100] * 100 + head[triple / 10 % 10] * 10 + head[triple % 10];
    }

    private List<Integer> heads() {
        return new ArrayList<>(new TreeSet<>(List.of(head[0], head[1], head[2], head[3], head[4], head[5])));
    }

    private List<Map<Integer, Integer>> bindings(Set<Integer> letters) {
        List<Map<Integer, Integer>> all = new ArrayList<>();
        all.add(new HashMap<>());
        for (int letter : letters) {
            List<Map<Integer, Integer>> more = new ArrayList<>();
            for (Map<Integer, Integer> one : all) {
                for (int word : heads()) {
                    Map<Integer, Integer> with = new HashMap<>(one);
                    with.put(letter, word);
                    more.add(with);
                }
            }
            all = more;
        }
        return all;
    }

    private int bound(int pattern, Map<Integer, Integer> binding) {
        int triple = 0;
        for (int digit : new int[] {pattern / 100, pattern / 10 % 10, pattern % 10}) {
            triple = triple * 10 + (digit < 6 ? head[digit] : binding.get(digit));
        }
        return triple;
    }

    private static int number(Map<Integer, Integer> binding) {
        int number = 0;
        for (int letter = 6; letter <= 9; letter++) {
            number = number * 10 + binding.getOrDefault(letter, 9);
        }
        return number;
    }

    // what is told, what holds

    private Set<Integer> toldIn(List<Row> of, int when, int leastTrust) {
        Set<Integer> told = new TreeSet<>();
        for (Row row : of) {
            if (row.holdsIn(when) && row.trust >= leastTrust) {
                told.add(byHeads(row.triple));
            }
        }
        return told;
    }

    private Set<Integer> toldNow() {
        return toldIn(rows, moment, 1);
    }

    private List<Way> allWays() {
        List<Way> ways = new ArrayList<>();
        for (int rule = 0; rule < rules.size(); rule++) {
            int[] of = rules.get(rule);
            for (Map<Integer, Integer> binding : bindings(letters(of))) {
                List<Integer> given = new ArrayList<>();
                given.add(bound(of[1], binding));
                if (of[2] >= 0) {
                    given.add(bound(of[2], binding));
                }
                ways.add(new Way(rule, number(binding), bound(of[0], binding), given));
            }
        }
        return ways;
    }

    private Set<Integer> closed(Set<Integer> told, List<Way> ways) {
        Set<Integer> holds = new TreeSet<>(told);
        int before;
        do {
            before = holds.size();
            for (Way way : ways) {
                if (holds.containsAll(way.of)) {
                    holds.add(way.made);
                }
            }
        } while (holds.size() > before);
        return holds;
    }

    private Set<Integer> holdsNow() {
        return closed(toldNow(), allWays());
    }

    private static int deepest(Way way, Map<Integer, Integer> depths) {
        int most = -1;
        for (int triple : way.of) {
            if (!depths.containsKey(triple)) {
                return -1;
            }
            most = Math.max(most, depths.get(triple));
        }
        return most;
    }

    /** Lowers each depth as long as some way lowers one. */
    private Map<Integer, Integer> depths(List<Way> ways) {
        Map<Integer, Integer> depths = new HashMap<>();
        for (int triple : toldNow()) {
            depths.put(triple, 0);
        }
        boolean lowered = true;
        while (lowered) {
            lowered = false;
            for (Way way : ways) {
                int most = deepest(way, depths);
                if (most >= 0 && depths.getOrDefault(way.made, 10000) > most + 1) {
                    depths.put(way.made, most + 1);
                    lowered = true;
                }
            }
        }
        return depths;
    }

    private int merit(int heads, List<Way> ways) {
        for (int trust = 9; trust >= 1; trust--) {
            if (closed(toldIn(rows, moment, trust), ways).contains(heads)) {
                return trust;
            }
        }
        return 0;
    }

    private int brokenHeads(Set<Integer> told) {
        Set<Integer> broken = new HashSet<>();
        for (int one : told) {
            for (int other : told) {
                for (int word : singles) {
                    if (one / 10 == other / 10 && one % 10 != other % 10 && one / 10 % 10 == head[word]) {
                        broken.add(one / 100);
                    }
                }
            }
        }
        return broken.size();
    }

    private List<Row> behindBatch() {
        List<Row> then = new ArrayList<>();
        for (Row row : rows) {
            then.add(row.copy());
        }
        for (int[] entry : batch) {
            if (entry[1] == 0) {
                for (Row row : then) {
                    if (row.holdsIn(moment + 1) && byHeads(row.triple) == byHeads(entry[0])) {
                        row.till = moment + 1;
                    }
                }
                continue;
            }
            Row same = null;
            for (Row row : then) {
                if (row.holdsIn(moment + 1) && row.triple == entry[0]) {
                    same = row;
                }
            }
            if (same == null) {
                then.add(new Row(entry[0], entry[1], moment + 1));
            } else {
                same.trust = Math.max(same.trust, entry[1]);
            }
        }
        return then;
    }

    // the face

    int tell(int triple, int trust) {
        argument(isTriple(triple) && trust >= 1 && trust <= 9);
        state(batch.size() < 12);
        batch.add(new int[] {triple, trust});
        return batch.size();
    }

    int unsay(int triple) {
        argument(isTriple(triple));
        state(batch.size() < 12);
        batch.add(new int[] {triple, 0});
        return batch.size();
    }

    int drop() {
        int before = batch.size();
        batch.clear();
        return before;
    }

    int commit() {
        state(moment < 50);
        List<Row> then = behindBatch();
        state(then.size() <= 60 && brokenHeads(toldIn(then, moment + 1, 1)) == 0);
        rows = then;
        batch.clear();
        return ++moment;
    }

    int join(int one, int other) {
        index(isWord(one) && isWord(other));
        int a = head[one];
        int b = head[other];
        for (int word = 0; word < 6; word++) {
            head[word] = head[word] == a || head[word] == b ? Math.min(a, b) : head[word];
        }
        return head[one];
    }

    int part() {
        int before = heads().size();
        for (int word = 0; word < 6; word++) {
            head[word] = word;
        }
        return before;
    }

    int single(int word, boolean is) {
        index(isWord(word));
        if (is) {
            singles.add(word);
        } else {
            singles.remove(word);
        }
        return brokenHeads(toldNow());
    }

    int rule(int made, int one, int other) {
        argument(isPattern(made) && isPattern(one) && (isPattern(other) || other == -1));
        argument(letters(made, one, other).size() <= 3 && letters(one, other).containsAll(letters(made)));
        state(rules.size() < 3);
        rules.add(new int[] {made, one, other});
        return rules.size() - 1;
    }

    int unrule() {
        state(!rules.isEmpty());
        rules.remove(rules.size() - 1);
        return rules.size();
    }

    int pattern(int pattern) {
        argument(isPattern(pattern));
        state(patterns.size() < 3);
        patterns.add(pattern);
        return patterns.size();
    }

    int not(int pattern) {
        argument(isPattern(pattern) || pattern == -1);
        int before = not;
        not = pattern;
        return before;
    }

    int clear() {
        int before = patterns.size();
        patterns.clear();
        not = -1;
        return before;
    }

    int ofFact(int triple, int what) {
        argument(isTriple(triple) && what >= 0 && what <= 6);
        int heads = byHeads(triple);
        List<Way> ways = allWays();
        Set<Integer> holds = holdsNow();
        switch (what) {
            case 0:
                return toldNow().contains(heads) ? 1 : 0;
            case 1:
                return holds.contains(heads) ? 1 : 0;
            case 2:
                return depths(ways).getOrDefault(heads, -1);
            case 3:
                int count = 0;
                for (Way way : ways) {
                    count += way.made == heads && holds.containsAll(way.of) ? 1 : 0;
                }
                return count;
            case 4:
                return merit(heads, ways);
            case 5:
                int least = -1;
                for (Row row : rows) {
                    if (row.holdsIn(moment) && byHeads(row.triple) == heads && (least < 0 || row.from < least)) {
                        least = row.from;
                    }
                }
                return least;
            default:
                return heads;
        }
    }

    boolean told(int triple, int then) {
        argument(isTriple(triple));
        index(then >= 0 && then <= moment);
        return toldIn(rows, then, 1).contains(byHeads(triple));
    }

    int past(int then) {
        index(then >= 0 && then <= moment);
        return toldIn(rows, then, 1).size();
    }

    private boolean refused(Map<Integer, Integer> binding, Set<Integer> holds) {
        if (not == -1) {
            return false;
        }
        for (Map<Integer, Integer> others : bindings(letters(not))) {
            boolean agrees = true;
            for (int letter : others.keySet()) {
                agrees &= !binding.containsKey(letter) || binding.get(letter).equals(others.get(letter));
            }
            if (agrees && holds.contains(bound(not, others))) {
                return true;
            }
        }
        return false;
    }

    private int[] patternRow() {
        int[] row = new int[patterns.size()];
        for (int k = 0; k < row.length; k++) {
            row[k] = patterns.get(k);
        }
        return row;
    }

    private List<Integer> found() {
        Set<Integer> holds = holdsNow();
        Set<Integer> found = new TreeSet<>();
        for (Map<Integer, Integer> binding : bindings(letters(patternRow()))) {
            boolean all = true;
            for (int pattern : patterns) {
                all = all && holds.contains(bound(pattern, binding));
            }
            if (all && !refused(binding, holds)) {
                found.add(number(binding));
            }
        }
        return new ArrayList<>(found);
    }

    int answers() {
        return found().size();
    }

    int answer(int nth) {
        List<Integer> found = found();
        index(nth >= 0 && nth < found.size());
        return found.get(nth);
    }

    int size(int nth) {
        index(nth >= 0 && nth < patterns.size());
        Set<Integer> holds = holdsNow();
        int count = 0;
        for (Map<Integer, Integer> binding : bindings(letters(patterns.get(nth)))) {
            count += holds.contains(bound(patterns.get(nth), binding)) ? 1 : 0;
        }
        return count;
    }

    private long leastProduct(int nth, int[] powers, long product) {
        if (nth == patterns.size()) {
            for (int letter : letters(patternRow())) {
                int together = 0;
                for (int k = 0; k < nth; k++) {
                    together += letters(patterns.get(k)).contains(letter) ? powers[k] : 0;
                }
                if (together < 2) {
                    return Long.MAX_VALUE;
                }
            }
            return product;
        }
        long least = Long.MAX_VALUE;
        long times = 1;
        for (int power = 0; power <= 2; power++) {
            powers[nth] = power;
            least = Math.min(least, leastProduct(nth + 1, powers, product * times));
            times *= size(nth);
        }
        return least;
    }

    long bound() {
        for (int nth = 0; nth < patterns.size(); nth++) {
            if (size(nth) == 0) {
                return 0;
            }
        }
        return letters(patternRow()).isEmpty() ? 1 : leastProduct(0, new int[3], 1);
    }

    int chain(int word, int from, int to) {
        index(isWord(word) && isWord(from) && isWord(to));
        Set<Integer> holds = holdsNow();
        int[] away = {-1, -1, -1, -1, -1, -1};
        away[head[from]] = 0;
        for (int round = 0; round < 6; round++) {
            for (int triple : holds) {
                int start = away[triple / 100];
                int end = triple % 10;
                if (triple / 10 % 10 == head[word] && start >= 0 && (away[end] < 0 || away[end] > start + 1)) {
                    away[end] = start + 1;
                }
            }
        }
        return away[head[to]];
    }

    String why(int triple) {
        argument(isTriple(triple));
        int heads = byHeads(triple);
        List<Way> ways = allWays();
        Map<Integer, Integer> depths = depths(ways);
        if (toldNow().contains(heads)) {
            return "told";
        }
        Way best = null;
        for (Way way : ways) {
            int most = deepest(way, depths);
            boolean fits = way.made == heads && most >= 0 && most + 1 == depths.get(heads);
            if (fits && (best == null || way.rule * 10000 + way.number < best.rule * 10000 + best.number)) {
                best = way;
            }
        }
        if (best == null) {
            return "no";
        }
        List<String> of = new ArrayList<>();
        for (int given : best.of) {
            of.add(String.format("%03d", given));
        }
        return "r" + best.rule + ":" + String.join(",", of);
    }

    int store(int what) {
        argument(what >= 0 && what <= 11);
        switch (what) {
            case 0:
                return moment;
            case 1:
                return rows.size();
            case 2:
                return toldNow().size();
            case 3:
                return holdsNow().size();
            case 4:
                int most = -1;
                for (int depth : depths(allWays()).values()) {
                    most = Math.max(most, depth);
                }
                return most;
            case 5:
                return rules.size();
            case 6:
                return batch.size();
            case 7:
                return heads().size();
            case 8:
                return brokenHeads(toldNow());
            case 9:
                return patterns.size();
            case 10:
                return not == -1 ? 0 : 1;
            default:
                int set = 0;
                for (int word : singles) {
                    set += 1 << word;
                }
                return set;
        }
    }

    int broken() {
        return brokenHeads(toldIn(behindBatch(), moment + 1, 1));
    }

    int lost(int triple) {
        argument(isTriple(triple));
        Set<Integer> told = toldNow();
        state(told.remove(byHeads(triple)));
        return holdsNow().size() - closed(told, allWays()).size();
    }

    boolean isSound() {
        List<Way> ways = allWays();
        Map<Integer, Integer> depths = depths(ways);
        Set<Integer> told = toldNow();
        boolean sound = holdsNow().containsAll(told);
        int trust = 0;
        for (Row row : rows) {
            trust = row.holdsIn(moment) ? Math.max(trust, row.trust) : trust;
        }
        for (int triple : holdsNow()) {
            boolean made = told.contains(triple);
            for (Way way : ways) {
                int most = deepest(way, depths);
                made |= way.made == triple && most >= 0 && most < depths.get(triple);
            }
            sound &= made && merit(triple, ways) <= trust;
        }
        long found = answers();
        return sound && found * found <= bound();
    }

    long digest() {
        List<Long> all = new ArrayList<>();
        for (int what = 0; what <= 11; what++) {
            all.add((long) store(what));
        }
        for (int triple : holdsNow()) {
            all.add((long) triple);
            for (int what = 2; what <= 5; what++) {
                all.add((long) ofFact(triple, what));
            }
        }
        List<Integer> found = found();
        all.add((long) found.size());
        for (int answer : found) {
            all.add((long) answer);
        }
        all.add(bound());
        for (int then = 0; then <= moment; then++) {
            all.add((long) past(then));
        }
        all.add((long) chain(0, 1, 2));
        all.add((long) broken());
        all.add(isSound() ? 1L : 0L);
        long d = 8629;
        for (long v : all) {
            d = d * 31 + v;
        }
        return d;
    }
}
