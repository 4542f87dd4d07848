/** A store of small facts in triples. DOC.md, beside the tests, says what each call answers. */
public final class Factloom {

    private static final int NONE = -1;
    private static final int WORDS = 6;
    private static final int FIRST_LETTER = 6;
    private static final int LAST_LETTER = 9;
    private static final int DIGITS = 10;
    private static final int UNBOUND = 9;
    private static final int TRIPLE_NUMBERS = 556;
    private static final int PAIR_NUMBERS = 56;
    private static final int LAST_PATTERN = 999;
    private static final int MOST_TRUST = 9;
    private static final int LAST_MOMENT = 50;
    private static final int MOST_ROWS = 60;
    private static final int MOST_IN_BATCH = 12;
    private static final int MOST_RULES = 3;
    private static final int MOST_RULE_LETTERS = 3;
    private static final int MOST_GROUNDS = 648;
    private static final int MOST_PATTERNS = 3;
    private static final int MOST_ANSWERS = 1296;
    private static final int POWER_CHOICES = 27;
    private static final int DIGEST_START = 8629;

    private final Names names;
    private final Batch batch;
    private final Rows rows;
    private final Rows tried;
    private final ToldTable toldNow;
    private final ToldTable toldElse;
    private final Rules rules;
    private final Grounds grounds;
    private final Depths depths;
    private final Depths depthsWithout;
    private final Origins origins;
    private final Question question;
    private int moment;
    private boolean groundsFresh;
    private boolean heldFresh;
    private boolean answersFresh;

    public Factloom() {
        names = new Names();
        batch = new Batch();
        rows = new Rows();
        tried = new Rows();
        toldNow = new ToldTable();
        toldElse = new ToldTable();
        rules = new Rules();
        grounds = new Grounds();
        depths = new Depths();
        depthsWithout = new Depths();
        origins = new Origins();
        question = new Question();
    }

    public int tell(int triple, int trust) throws IllegalArgumentException, IllegalStateException {
        checkTriple(triple);
        if (trust < 1 || trust > MOST_TRUST) {
            throw new IllegalArgumentException("trust is not 1 to 9");
        }
        checkBatchRoom();
        return batch.add(triple, trust);
    }

    public int unsay(int triple) throws IllegalArgumentException, IllegalStateException {
        checkTriple(triple);
        checkBatchRoom();
        return batch.add(triple, Batch.UNSAID);
    }

    public int drop() {
        return batch.empty();
    }

    public int commit() throws IllegalStateException {
        if (moment >= LAST_MOMENT) {
            throw new IllegalStateException("no moment is left");
        }
        tryBatch();
        if (tried.count > MOST_ROWS) {
            throw new IllegalStateException("there would be too many rows");
        }
        if (toldElse.brokenHeads(names) > 0) {
            throw new IllegalStateException("a shape would be broken");
        }
        moment++;
        rows.copyFrom(tried);
        batch.empty();
        toldChanged();
        return moment;
    }

    public int join(int one, int other) throws IndexOutOfBoundsException {
        checkWord(one);
        checkWord(other);
        int head = names.unite(one, other);
        headsChanged();
        return head;
    }

    public int part() {
        int before = names.headCount();
        names.separate();
        headsChanged();
        return before;
    }

    public int single(int word, boolean is) throws IndexOutOfBoundsException {
        checkWord(word);
        names.setSingle(word, is);
        return toldNow.brokenHeads(names);
    }

    public int rule(int made, int one, int other) throws IllegalArgumentException, IllegalStateException {
        checkPattern(made);
        checkPattern(one);
        checkPatternOrNone(other);
        int givenLetters = lettersOf(one) | lettersOf(other);
        if (Integer.bitCount(givenLetters | lettersOf(made)) > MOST_RULE_LETTERS) {
            throw new IllegalArgumentException("too many letters");
        }
        if ((lettersOf(made) & ~givenLetters) != 0) {
            throw new IllegalArgumentException("a letter is made of nothing");
        }
        if (rules.count >= MOST_RULES) {
            throw new IllegalStateException("there are as many rules as can be");
        }
        int number = rules.add(made, one, other);
        rulesChanged();
        return number;
    }

    public int unrule() throws IllegalStateException {
        if (rules.count <= 0) {
            throw new IllegalStateException("there is no rule");
        }
        int left = rules.removeLast();
        rulesChanged();
        return left;
    }

    public int pattern(int pattern) throws IllegalArgumentException, IllegalStateException {
        checkPattern(pattern);
        if (question.count >= MOST_PATTERNS) {
            throw new IllegalStateException("the question has as many patterns as can be");
        }
        answersFresh = false;
        return question.add(pattern);
    }

    public int not(int pattern) throws IllegalArgumentException {
        checkPatternOrNone(pattern);
        answersFresh = false;
        return question.replaceNot(pattern);
    }

    public int clear() {
        answersFresh = false;
        return question.empty();
    }

    public int ofFact(int triple, int what) throws IllegalArgumentException {
        checkTriple(triple);
        if (what < 0 || what > 6) {
            throw new IllegalArgumentException("what is not 0 to 6");
        }
        settleHeld();
        return factNumber(names.headsOf(triple), what);
    }

    public boolean told(int triple, int moment) throws IllegalArgumentException, IndexOutOfBoundsException {
        checkTriple(triple);
        checkMoment(moment);
        toldElse.gather(rows, moment);
        return toldElse.has(names.headsOf(triple));
    }

    public int past(int moment) throws IndexOutOfBoundsException {
        checkMoment(moment);
        return toldCount(moment);
    }

    public int answers() {
        settleAnswers();
        return question.answerCount;
    }

    public int answer(int nth) throws IndexOutOfBoundsException {
        settleAnswers();
        if (nth < 0 || nth >= question.answerCount) {
            throw new IndexOutOfBoundsException("there is no such answer");
        }
        return at(question.found, nth, NONE);
    }

    public int size(int nth) throws IndexOutOfBoundsException {
        if (nth < 0 || nth >= question.count) {
            throw new IndexOutOfBoundsException("there is no such pattern");
        }
        settleHeld();
        return question.sizeOf(nth, names, depths);
    }

    public long bound() {
        settleHeld();
        return question.answersBound(names, depths);
    }

    public int chain(int word, int from, int to) throws IndexOutOfBoundsException {
        checkWord(word);
        checkWord(from);
        checkWord(to);
        settleHeld();
        return chainLength(names.headOf(word), names.headOf(from), names.headOf(to));
    }

    public String why(int triple) throws IllegalArgumentException {
        checkTriple(triple);
        settleHeld();
        int heads = names.headsOf(triple);
        if (toldNow.has(heads)) {
            return "told";
        }
        return depths.holds(heads) ? originText(at(origins.first, heads, NONE)) : "no";
    }

    public int store(int what) throws IllegalArgumentException {
        if (what < 0 || what > 11) {
            throw new IllegalArgumentException("what is not 0 to 11");
        }
        settleHeld();
        return storeNumber(what);
    }

    public int broken() {
        tryBatch();
        return toldElse.brokenHeads(names);
    }

    public int lost(int triple) throws IllegalArgumentException, IllegalStateException {
        checkTriple(triple);
        int heads = names.headsOf(triple);
        if (!toldNow.has(heads)) {
            throw new IllegalStateException("it is not told");
        }
        settleHeld();
        depthsWithout.spread(toldNow, heads, grounds);
        return depths.count - depthsWithout.count;
    }

    public boolean isSound() {
        settleAnswers();
        return isAllSound();
    }

    public long digest() {
        settleAnswers();
        long d = DIGEST_START;
        for (int what = 0; what <= 11; what++) {
            d = d * 31 + storeNumber(what);
        }
        d = mixHeld(d);
        d = mixAnswers(d);
        d = d * 31 + question.answersBound(names, depths);
        for (int then = 0; then <= moment; then++) {
            d = d * 31 + toldCount(then);
        }
        d = d * 31 + chainLength(names.headOf(0), names.headOf(1), names.headOf(2));
        tryBatch();
        d = d * 31 + toldElse.brokenHeads(names);
        return d * 31 + (isAllSound() ? 1 : 0);
    }

    private long mixHeld(long start) {
        long d = start;
        for (int triple = 0; triple < TRIPLE_NUMBERS; triple++) {
            if (depths.holds(triple)) {
                d = d * 31 + triple;
                for (int what = 2; what <= 5; what++) {
                    d = d * 31 + factNumber(triple, what);
                }
            }
        }
        return d;
    }

    private long mixAnswers(long start) {
        long d = start * 31 + question.answerCount;
        for (int nth = 0; nth < question.answerCount; nth++) {
            d = d * 31 + at(question.found, nth, NONE);
        }
        return d;
    }

    private void headsChanged() {
        rows.rename(names);
        rulesChanged();
        toldChanged();
    }

    private void rulesChanged() {
        groundsFresh = false;
        heldFresh = false;
        answersFresh = false;
    }

    private void toldChanged() {
        toldNow.gather(rows, moment);
        heldFresh = false;
        answersFresh = false;
    }

    private void settleHeld() {
        if (!groundsFresh) {
            grounds.build(rules, names);
            groundsFresh = true;
        }
        if (!heldFresh) {
            depths.spread(toldNow, NONE, grounds);
            origins.trace(rows, depths, grounds);
            heldFresh = true;
        }
    }

    private void settleAnswers() {
        settleHeld();
        if (!answersFresh) {
            question.find(names, depths);
            answersFresh = true;
        }
    }

    /** Leaves in tried and toldElse what would be, so that a batch that cannot be changes nothing. */
    private void tryBatch() {
        tried.copyFrom(rows);
        tried.take(batch, moment + 1, names);
        toldElse.gather(tried, moment + 1);
    }

    private int toldCount(int then) {
        toldElse.gather(rows, then);
        return toldElse.count();
    }

    private int factNumber(int heads, int what) {
        switch (what) {
            case 0:
                return toldNow.has(heads) ? 1 : 0;
            case 1:
                return depths.holds(heads) ? 1 : 0;
            case 2:
                return depths.of(heads);
            case 3:
                return at(origins.ways, heads, 0);
            case 4:
                return at(origins.merit, heads, 0);
            case 5:
                return rows.earliest(heads);
            default:
                return heads;
        }
    }

    private int storeNumber(int what) {
        switch (what) {
            case 0:
                return moment;
            case 1:
                return rows.count;
            case 2:
                return toldNow.count();
            case 3:
                return depths.count;
            case 4:
                return depths.greatest;
            case 5:
                return rules.count;
            case 6:
                return batch.count;
            case 7:
                return names.headCount();
            case 8:
                return toldNow.brokenHeads(names);
            case 9:
                return question.count;
            case 10:
                return question.hasNot() ? 1 : 0;
            default:
                return names.singles;
        }
    }

    private int chainLength(int word, int from, int to) {
        int reached = 1 << from;
        for (int length = 0; length < WORDS; length++) {
            if (isIn(reached, to)) {
                return length;
            }
            reached = reached | behind(reached, word);
        }
        return NONE;
    }

    private int behind(int firsts, int word) {
        int thirds = 0;
        for (int first = 0; first < WORDS; first++) {
            for (int third = 0; third < WORDS; third++) {
                if (isIn(firsts, first) && depths.holds(first * 100 + word * 10 + third)) {
                    thirds = thirds | 1 << third;
                }
            }
        }
        return thirds;
    }

    private String originText(int ground) {
        int rule = at(grounds.ruleOf, ground, NONE);
        StringBuilder text = new StringBuilder();
        text.append('r').append(rule).append(':');
        appendTriple(text, at(grounds.one, ground, 0));
        if (at(rules.other, rule, NONE) != NONE) {
            text.append(',');
            appendTriple(text, at(grounds.other, ground, 0));
        }
        return text.toString();
    }

    private static void appendTriple(StringBuilder text, int triple) {
        text.append(triple / 100).append(triple / 10 % 10).append(triple % 10);
    }

    private boolean isAllSound() {
        long found = question.answerCount;
        return found * found <= question.answersBound(names, depths) && areTriplesSound();
    }

    private boolean areTriplesSound() {
        int greatestTrust = rows.greatestTrust();
        for (int triple = 0; triple < TRIPLE_NUMBERS; triple++) {
            boolean holds = depths.holds(triple);
            boolean isTold = toldNow.has(triple);
            boolean isMadeOfLessDeep = at(origins.first, triple, NONE) != NONE;
            if (isTold && !holds || holds && !isTold && !isMadeOfLessDeep) {
                return false;
            }
            if (at(origins.merit, triple, 0) > greatestTrust) {
                return false;
            }
        }
        return true;
    }

    private static void checkTriple(int triple) {
        if (triple < 0 || triple >= TRIPLE_NUMBERS || triple / 10 % 10 >= WORDS || triple % 10 >= WORDS) {
            throw new IllegalArgumentException("no triple");
        }
    }

    private static void checkPattern(int pattern) {
        if (pattern < 0 || pattern > LAST_PATTERN) {
            throw new IllegalArgumentException("no pattern");
        }
    }

    private static void checkPatternOrNone(int pattern) {
        if (pattern != NONE) {
            checkPattern(pattern);
        }
    }

    private static void checkWord(int word) {
        if (word < 0 || word >= WORDS) {
            throw new IndexOutOfBoundsException("no word");
        }
    }

    private void checkMoment(int then) {
        if (then < 0 || then > moment) {
            throw new IndexOutOfBoundsException("no moment yet");
        }
    }

    private void checkBatchRoom() {
        if (batch.count >= MOST_IN_BATCH) {
            throw new IllegalStateException("the batch is full");
        }
    }

    /** Every index that comes from a number and not from its own loop goes through at and put. */
    private static int at(int[] row, int index, int otherwise) {
        return index >= 0 && index < row.length ? row[index] : otherwise;
    }

    private static void put(int[] row, int index, int value) {
        if (index >= 0 && index < row.length) {
            row[index] = value;
        }
    }

    private static void fill(int[] row, int value) {
        for (int i = 0; i < row.length; i++) {
            row[i] = value;
        }
    }

    private static void copy(int[] from, int[] to, int count) {
        for (int i = 0; i < count && i < from.length && i < to.length; i++) {
            to[i] = from[i];
        }
    }

    private static boolean isIn(int set, int number) {
        return (set >> number & 1) != 0;
    }

    private static int lettersOf(int pattern) {
        if (pattern == NONE) {
            return 0;
        }
        return letterSet(pattern / 100) | letterSet(pattern / 10 % 10) | letterSet(pattern % 10);
    }

    private static int letterSet(int digit) {
        return digit < FIRST_LETTER ? 0 : 1 << digit;
    }

    /** Which word stands for each word, and which words are single. */
    private static final class Names {
        private final int[] heads = new int[WORDS];
        private int singles;

        Names() {
            separate();
        }

        void separate() {
            for (int word = 0; word < heads.length; word++) {
                heads[word] = word;
            }
        }

        int unite(int one, int other) {
            int oneHead = headOf(one);
            int otherHead = headOf(other);
            int head = Math.min(oneHead, otherHead);
            for (int word = 0; word < heads.length; word++) {
                if (heads[word] == oneHead || heads[word] == otherHead) {
                    heads[word] = head;
                }
            }
            return head;
        }

        void setSingle(int word, boolean is) {
            singles = is ? singles | 1 << word : singles & ~(1 << word);
        }

        int headOf(int word) {
            return at(heads, word, 0);
        }

        int headsOf(int triple) {
            return headOf(triple / 100) * 100 + headOf(triple / 10 % 10) * 10 + headOf(triple % 10);
        }

        boolean isHead(int word) {
            return headOf(word) == word;
        }

        int headCount() {
            int count = 0;
            for (int word = 0; word < WORDS; word++) {
                if (isHead(word)) {
                    count++;
                }
            }
            return count;
        }
    }

    /** What each digit of a pattern means: a word its head, a letter the head it is bound to. */
    private static final class Binding {
        private final int[] meaning = new int[DIGITS];
        private int letters;

        /** Binds the letters, and no others, to the smallest head; returns how many bindings next goes through. */
        int start(Names names, int letterSet) {
            for (int word = 0; word < WORDS; word++) {
                put(meaning, word, names.headOf(word));
            }
            for (int letter = FIRST_LETTER; letter <= LAST_LETTER; letter++) {
                put(meaning, letter, UNBOUND);
            }
            return bindFirst(letterSet);
        }

        /** As start, but all other letters keep what the outer binding gives them. */
        int startInside(Binding outer, int letterSet) {
            copy(outer.meaning, meaning, DIGITS);
            return bindFirst(letterSet);
        }

        private int bindFirst(int letterSet) {
            letters = letterSet;
            int heads = 0;
            for (int word = 0; word < WORDS; word++) {
                if (at(meaning, word, NONE) == word) {
                    heads++;
                }
            }
            int bindings = 1;
            for (int letter = FIRST_LETTER; letter <= LAST_LETTER; letter++) {
                if (isIn(letters, letter)) {
                    put(meaning, letter, 0);
                    bindings = bindings * heads;
                }
            }
            return bindings;
        }

        /** The last letter moves first, so that the numbers of the bindings rise. */
        void next() {
            boolean moved = false;
            for (int letter = LAST_LETTER; letter >= FIRST_LETTER && !moved; letter--) {
                if (isIn(letters, letter)) {
                    int head = headAbove(at(meaning, letter, 0));
                    moved = head != NONE;
                    put(meaning, letter, moved ? head : 0);
                }
            }
        }

        private int headAbove(int word) {
            for (int higher = word + 1; higher < WORDS; higher++) {
                if (at(meaning, higher, NONE) == higher) {
                    return higher;
                }
            }
            return NONE;
        }

        int tripleOf(int pattern) {
            return at(meaning, pattern / 100, UNBOUND) * 100
                    + at(meaning, pattern / 10 % 10, UNBOUND) * 10
                    + at(meaning, pattern % 10, UNBOUND);
        }

        int number() {
            int number = 0;
            for (int letter = FIRST_LETTER; letter <= LAST_LETTER; letter++) {
                number = number * 10 + at(meaning, letter, UNBOUND);
            }
            return number;
        }
    }

    /** What is to be told and to be unsaid, as it came. */
    private static final class Batch {
        private static final int UNSAID = 0;

        private final int[] triples = new int[MOST_IN_BATCH];
        private final int[] trusts = new int[MOST_IN_BATCH];
        private int count;

        int add(int triple, int trust) {
            put(triples, count, triple);
            put(trusts, count, trust);
            count++;
            return count;
        }

        int empty() {
            int before = count;
            count = 0;
            return before;
        }
    }

    /** All rows ever, with room for those that a batch would make too many. */
    private static final class Rows {
        private static final int ROOM = MOST_ROWS + MOST_IN_BATCH;

        private final int[] triples = new int[ROOM];
        private final int[] heads = new int[ROOM];
        private final int[] trusts = new int[ROOM];
        private final int[] since = new int[ROOM];
        private final int[] till = new int[ROOM];
        private int count;

        void copyFrom(Rows other) {
            count = other.count;
            copy(other.triples, triples, count);
            copy(other.heads, heads, count);
            copy(other.trusts, trusts, count);
            copy(other.since, since, count);
            copy(other.till, till, count);
        }

        void rename(Names names) {
            for (int row = 0; row < count; row++) {
                put(heads, row, names.headsOf(at(triples, row, 0)));
            }
        }

        void take(Batch batch, int moment, Names names) {
            for (int k = 0; k < batch.count; k++) {
                int triple = at(batch.triples, k, 0);
                int trust = at(batch.trusts, k, Batch.UNSAID);
                if (trust == Batch.UNSAID) {
                    end(names.headsOf(triple), moment);
                } else {
                    begin(triple, names.headsOf(triple), trust, moment);
                }
            }
        }

        private void end(int tripleHeads, int moment) {
            for (int row = 0; row < count; row++) {
                if (isOpen(row) && at(heads, row, NONE) == tripleHeads) {
                    put(till, row, moment);
                }
            }
        }

        private void begin(int triple, int tripleHeads, int trust, int moment) {
            int row = openRowOf(triple);
            if (row != NONE) {
                put(trusts, row, Math.max(trust, at(trusts, row, 0)));
                return;
            }
            put(triples, count, triple);
            put(heads, count, tripleHeads);
            put(trusts, count, trust);
            put(since, count, moment);
            put(till, count, NONE);
            count++;
        }

        private int openRowOf(int triple) {
            for (int row = 0; row < count; row++) {
                if (isOpen(row) && at(triples, row, NONE) == triple) {
                    return row;
                }
            }
            return NONE;
        }

        /** No row ends later than now, so what holds now is what has no end. */
        boolean isOpen(int row) {
            return at(till, row, 0) == NONE;
        }

        boolean holdsIn(int row, int moment) {
            return at(since, row, 0) <= moment && (isOpen(row) || moment < at(till, row, 0));
        }

        int earliest(int tripleHeads) {
            int least = NONE;
            for (int row = 0; row < count; row++) {
                if (isOpen(row) && at(heads, row, NONE) == tripleHeads) {
                    int from = at(since, row, 0);
                    least = least == NONE ? from : Math.min(least, from);
                }
            }
            return least;
        }

        int greatestTrust() {
            int greatest = 0;
            for (int row = 0; row < count; row++) {
                if (isOpen(row)) {
                    greatest = Math.max(greatest, at(trusts, row, 0));
                }
            }
            return greatest;
        }
    }

    /** The triples of heads that are told in one moment: by first and second word the set of the third ones. */
    private static final class ToldTable {
        private final int[] thirds = new int[PAIR_NUMBERS];

        void gather(Rows rows, int moment) {
            fill(thirds, 0);
            for (int row = 0; row < rows.count; row++) {
                if (rows.holdsIn(row, moment)) {
                    int triple = at(rows.heads, row, 0);
                    int pair = triple / 10;
                    put(thirds, pair, at(thirds, pair, 0) | 1 << triple % 10);
                }
            }
        }

        boolean has(int triple) {
            return isIn(at(thirds, triple / 10, 0), triple % 10);
        }

        int count() {
            int count = 0;
            for (int pair = 0; pair < thirds.length; pair++) {
                count += Integer.bitCount(thirds[pair]);
            }
            return count;
        }

        int brokenHeads(Names names) {
            int count = 0;
            for (int first = 0; first < WORDS; first++) {
                if (isBrokenFor(first, names)) {
                    count++;
                }
            }
            return count;
        }

        private boolean isBrokenFor(int first, Names names) {
            for (int word = 0; word < WORDS; word++) {
                int pair = first * 10 + names.headOf(word);
                if (isIn(names.singles, word) && Integer.bitCount(at(thirds, pair, 0)) > 1) {
                    return true;
                }
            }
            return false;
        }
    }

    /** The rules as they were given. */
    private static final class Rules {
        private final int[] made = new int[MOST_RULES];
        private final int[] one = new int[MOST_RULES];
        private final int[] other = new int[MOST_RULES];
        private int count;

        int add(int madePattern, int onePattern, int otherPattern) {
            put(made, count, madePattern);
            put(one, count, onePattern);
            put(other, count, otherPattern);
            count++;
            return count - 1;
        }

        int removeLast() {
            count--;
            return count;
        }
    }

    /** Each pair of a rule and a binding, as triples of heads: rule by rule, the bindings by rising numbers. */
    private static final class Grounds {
        private final int[] ruleOf = new int[MOST_GROUNDS];
        private final int[] made = new int[MOST_GROUNDS];
        private final int[] one = new int[MOST_GROUNDS];
        private final int[] other = new int[MOST_GROUNDS];
        private final Binding binding = new Binding();
        private int count;

        void build(Rules rules, Names names) {
            count = 0;
            for (int rule = 0; rule < rules.count; rule++) {
                int madePattern = at(rules.made, rule, 0);
                int onePattern = at(rules.one, rule, 0);
                int otherPattern = at(rules.other, rule, NONE);
                // Of a rule with one pattern that one counts twice: what holds and how deep is the same.
                int second = otherPattern == NONE ? onePattern : otherPattern;
                int bindings = binding.start(names, lettersOf(onePattern) | lettersOf(second));
                for (int k = 0; k < bindings; k++) {
                    add(rule, binding.tripleOf(madePattern), binding.tripleOf(onePattern), binding.tripleOf(second));
                    binding.next();
                }
            }
        }

        private void add(int rule, int madeTriple, int oneTriple, int otherTriple) {
            put(ruleOf, count, rule);
            put(made, count, madeTriple);
            put(one, count, oneTriple);
            put(other, count, otherTriple);
            count++;
        }
    }

    /** How deep each triple of heads is, and so which ones hold. */
    private static final class Depths {
        private final int[] depth = new int[TRIPLE_NUMBERS];
        private int count;
        private int greatest;

        /** To rest, from what is told, but for one triple of it. */
        void spread(ToldTable told, int except, Grounds grounds) {
            count = 0;
            greatest = NONE;
            fill(depth, NONE);
            for (int triple = 0; triple < TRIPLE_NUMBERS; triple++) {
                if (triple != except && told.has(triple)) {
                    reach(triple, 0);
                }
            }
            boolean grew = true;
            for (int round = 1; grew && round < TRIPLE_NUMBERS; round++) {
                grew = grow(round, grounds);
            }
        }

        /** What is made in a round waits for the next one to be used, so that the round is the depth. */
        private boolean grow(int round, Grounds grounds) {
            boolean grew = false;
            for (int k = 0; k < grounds.count; k++) {
                int made = at(grounds.made, k, NONE);
                if (!holds(made) && isBelow(at(grounds.one, k, NONE), round)
                        && isBelow(at(grounds.other, k, NONE), round)) {
                    reach(made, round);
                    grew = true;
                }
            }
            return grew;
        }

        private void reach(int triple, int newDepth) {
            put(depth, triple, newDepth);
            count++;
            greatest = newDepth;
        }

        int of(int triple) {
            return at(depth, triple, NONE);
        }

        boolean holds(int triple) {
            return at(depth, triple, NONE) != NONE;
        }

        boolean isBelow(int triple, int limit) {
            int itsDepth = at(depth, triple, NONE);
            return itsDepth != NONE && itsDepth < limit;
        }
    }

    /** Of each triple of heads: in how many ways it is made, by which ground first with its depth, and its merit. */
    private static final class Origins {
        private final int[] ways = new int[TRIPLE_NUMBERS];
        private final int[] first = new int[TRIPLE_NUMBERS];
        private final int[] merit = new int[TRIPLE_NUMBERS];

        void trace(Rows rows, Depths depths, Grounds grounds) {
            countWays(depths, grounds);
            startMerits(rows);
            boolean rose = true;
            for (int round = 0; rose && round <= TRIPLE_NUMBERS * MOST_TRUST; round++) {
                rose = raiseMerits(grounds);
            }
        }

        private void countWays(Depths depths, Grounds grounds) {
            fill(ways, 0);
            fill(first, NONE);
            for (int k = 0; k < grounds.count; k++) {
                int made = at(grounds.made, k, NONE);
                int one = at(grounds.one, k, NONE);
                int other = at(grounds.other, k, NONE);
                if (depths.holds(one) && depths.holds(other)) {
                    put(ways, made, at(ways, made, 0) + 1);
                    // Depth is the least one, so a way of less deep ones is a way with just that depth.
                    int madeDepth = depths.of(made);
                    if (at(first, made, NONE) == NONE && depths.isBelow(one, madeDepth)
                            && depths.isBelow(other, madeDepth)) {
                        put(first, made, k);
                    }
                }
            }
        }

        private void startMerits(Rows rows) {
            fill(merit, 0);
            for (int row = 0; row < rows.count; row++) {
                if (rows.isOpen(row)) {
                    raise(at(rows.heads, row, NONE), at(rows.trusts, row, 0));
                }
            }
        }

        /** A way is worth as much as the lesser one of what it is made of. */
        private boolean raiseMerits(Grounds grounds) {
            boolean rose = false;
            for (int k = 0; k < grounds.count; k++) {
                int worth = Math.min(at(merit, at(grounds.one, k, NONE), 0), at(merit, at(grounds.other, k, NONE), 0));
                if (raise(at(grounds.made, k, NONE), worth)) {
                    rose = true;
                }
            }
            return rose;
        }

        private boolean raise(int triple, int worth) {
            boolean rises = worth > at(merit, triple, MOST_TRUST);
            if (rises) {
                put(merit, triple, worth);
            }
            return rises;
        }
    }

    /** The patterns that have to hold, the not, and the answers to them. */
    private static final class Question {
        private final int[] patterns = new int[MOST_PATTERNS];
        private final int[] sizes = new int[MOST_PATTERNS];
        private final int[] found = new int[MOST_ANSWERS];
        private final Binding outer = new Binding();
        private final Binding inner = new Binding();
        private int count;
        private int letters;
        private int notPattern = NONE;
        private int answerCount;

        int add(int pattern) {
            put(patterns, count, pattern);
            count++;
            letters = letters | lettersOf(pattern);
            return count;
        }

        int replaceNot(int pattern) {
            int before = notPattern;
            notPattern = pattern;
            return before;
        }

        boolean hasNot() {
            return notPattern != NONE;
        }

        int empty() {
            int before = count;
            count = 0;
            letters = 0;
            notPattern = NONE;
            return before;
        }

        void find(Names names, Depths depths) {
            answerCount = 0;
            int bindings = outer.start(names, letters);
            for (int k = 0; k < bindings; k++) {
                if (allHold(depths) && !isRefused(depths)) {
                    put(found, answerCount, outer.number());
                    answerCount++;
                }
                outer.next();
            }
        }

        private boolean allHold(Depths depths) {
            for (int nth = 0; nth < count; nth++) {
                if (!depths.holds(outer.tripleOf(at(patterns, nth, NONE)))) {
                    return false;
                }
            }
            return true;
        }

        private boolean isRefused(Depths depths) {
            if (!hasNot()) {
                return false;
            }
            int bindings = inner.startInside(outer, lettersOf(notPattern) & ~letters);
            for (int k = 0; k < bindings; k++) {
                if (depths.holds(inner.tripleOf(notPattern))) {
                    return true;
                }
                inner.next();
            }
            return false;
        }

        int sizeOf(int nth, Names names, Depths depths) {
            int pattern = at(patterns, nth, NONE);
            int holding = 0;
            int bindings = inner.start(names, lettersOf(pattern));
            for (int k = 0; k < bindings; k++) {
                if (depths.holds(inner.tripleOf(pattern))) {
                    holding++;
                }
                inner.next();
            }
            return holding;
        }

        long answersBound(Names names, Depths depths) {
            for (int nth = 0; nth < count; nth++) {
                int size = sizeOf(nth, names, depths);
                if (size == 0) {
                    return 0;
                }
                put(sizes, nth, size);
            }
            long least = NONE;
            for (int powers = 0; powers < POWER_CHOICES; powers++) {
                if (coversLetters(powers)) {
                    long product = productOf(powers);
                    least = least == NONE ? product : Math.min(least, product);
                }
            }
            return least;
        }

        /** A choice of powers is a number with base 3, the power of the first pattern in its last place. */
        private boolean coversLetters(int powers) {
            for (int letter = FIRST_LETTER; letter <= LAST_LETTER; letter++) {
                if (isIn(letters, letter) && powerOver(letter, powers) < 2) {
                    return false;
                }
            }
            return true;
        }

        private int powerOver(int letter, int powers) {
            int together = 0;
            int rest = powers;
            for (int nth = 0; nth < count; nth++) {
                if (isIn(lettersOf(at(patterns, nth, NONE)), letter)) {
                    together += rest % 3;
                }
                rest = rest / 3;
            }
            return together;
        }

        private long productOf(int powers) {
            long product = 1;
            int rest = powers;
            for (int nth = 0; nth < count; nth++) {
                for (int k = 0; k < rest % 3; k++) {
                    product = product * at(sizes, nth, 1);
                }
                rest = rest / 3;
            }
            return product;
        }
    }
}
