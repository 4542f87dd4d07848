import java.math.BigInteger;
import java.util.ArrayList;
import java.util.List;

/** The boundary cases of promises 24 to 27: broken, lost, isSound, digest. */
public final class WouldBeEdgesTest {
    private static final Class<IllegalStateException> STATE = IllegalStateException.class;

    public static void main(String[] args) {
        brokenByNone();
        brokenNoneToSix();
        brokenByTheOrderOfTheBatch();
        brokenAndMended();
        brokenAfterADrop();
        brokenThoughItCannotBe();
        brokenChangesNothing();
        lostNoneToAll();
        lostOfWhatIsNotTold();
        lostByHeads();
        lostChangesNothing();
        soundAnywhere();
        digestStarts();
        digestWrapsAround();
        digestOfEachStore();
        digestSeesEachNumber();
        lastCall();
        Check.end();
    }

    /** Of an empty BATCH it is what is. */
    private static void brokenByNone() {
        Check.due("new", 0, new Factloom().broken());
        Factloom x = Stores.rows(60);
        Check.due("no shape", 0, x.broken());
        x.single(5, true);
        Check.due("as many as are", x.store(8), x.broken());
        Check.due("these are", 1, x.broken());
        x.single(0, true);
        Check.due("these are", 2, x.broken());
    }

    /** "for how many HEADS some SHAPE would be BROKEN": 0 to 6, each once. */
    private static void brokenNoneToSix() {
        Factloom x = new Factloom();
        x.single(3, true);
        for (int first = 0; first <= 5; first++) {
            x.tell(first * 100 + 30, 1);
            Check.due("one third", first, x.broken());
            x.tell(first * 100 + 35, 1);
            Check.due("two thirds", first + 1, x.broken());
        }
        Check.dueThrow("it cannot be", STATE, x::commit);
        x.join(0, 5);
        Check.due("like thirds", 0, x.broken());
        Check.due("then it can", 1, x.commit());
        x.part();
        Check.due("six are", 6, x.broken());
        x.single(3, false);
        Check.due("no shape", 0, x.broken());
    }

    /** "one by one": what is unsaid behind a tell, and before it. */
    private static void brokenByTheOrderOfTheBatch() {
        Factloom x = new Factloom();
        x.single(1, true);
        x.tell(12, 1);
        x.tell(13, 1);
        x.unsay(12);
        Check.due("told, then unsaid", 0, x.broken());
        x.tell(12, 1);
        Check.due("and told again", 1, x.broken());
        x.drop();
        x.unsay(12);
        x.tell(12, 1);
        x.tell(13, 1);
        Check.due("unsaid first", 1, x.broken());
    }

    private static void brokenAndMended() {
        Factloom x = new Factloom();
        x.tell(12, 1);
        x.tell(13, 1);
        x.commit();
        x.single(1, true);
        x.unsay(12);
        Check.due("it is", 1, x.store(8));
        Check.due("it would not be", 0, x.broken());
        x.tell(15, 1);
        Check.due("it would be again", 1, x.broken());
        x.join(5, 3);
        Check.due("by heads it would not", 0, x.broken());
    }

    /** Nothing stays of a BATCH that was dropped, whether broken() or a refused commit() tried it. */
    private static void brokenAfterADrop() {
        Factloom x = new Factloom();
        x.single(1, true);
        x.tell(12, 1);
        x.commit();
        x.tell(13, 1);
        Check.due("it would be", 1, x.broken());
        Check.dueThrow("so it cannot be", STATE, x::commit);
        x.drop();
        Check.due("it would not be", 0, x.broken());
        x.tell(12, 9);
        Check.due("told again", 0, x.broken());
        Check.due("so it can be", 2, x.commit());
        Check.due("one row", 1, x.store(1));
    }

    /** "(even if it cannot be)": for the ROWS, for the MOMENT, for a SHAPE. */
    private static void brokenThoughItCannotBe() {
        Factloom x = Stores.rows(60);
        x.single(1, true);
        for (int k = 0; k < 12; k++) {
            x.tell((k / 2 + 2) % 6 * 100 + 10 + k % 2 * 5, 1);
        }
        Check.dueThrow("60 rows", STATE, x::commit);
        Check.due("0 and 1 are, four more would be", 6, x.broken());
        Check.due("60 rows", 60, x.store(1));
        Check.due("two are", 2, x.store(8));
        Factloom y = Stores.atMoment(50);
        y.single(2, true);
        y.tell(124, 1);
        Check.dueThrow("moment 50", STATE, y::commit);
        Check.due("one would be", 1, y.broken());
        y.unsay(123);
        Check.dueThrow("moment 50", STATE, y::commit);
        Check.due("none would be", 0, y.broken());
        Check.due("moment 50", 50, y.store(0));
    }

    /** "what would be (nothing is changed)". */
    private static void brokenChangesNothing() {
        Factloom x = Stores.rich();
        x.tell(112, 9);
        Check.due("one would be", 1, x.broken());
        Factloom y = Stores.rich();
        y.tell(112, 9);
        Check.due("nothing is changed", Twin.portrait(y), Twin.portrait(x));
    }

    /** "how many TRIPLES (of HEADS) that HOLD would not HOLD": none, itself alone, all. */
    private static void lostNoneToAll() {
        Factloom x = new Factloom();
        x.tell(100, 1);
        x.commit();
        Check.due("all there are: one", 1, x.lost(100));
        x.rule(678, 876, -1);
        Check.due("itself and 001", 2, x.lost(100));
        x.tell(1, 1);
        x.commit();
        Check.due("none, as the other one makes it", 0, x.lost(100));
        Check.due("none, the other way round", 0, x.lost(1));
        Factloom y = new Factloom();
        y.tell(0, 1);
        y.commit();
        y.rule(100, 0, -1);
        y.rule(678, 100, 678);
        Check.due("each is made of itself, but not of itself alone", 2, y.lost(0));
        y.unrule();
        y.rule(0, 100, -1);
        Check.due("a circle", 2, y.lost(0));
        Check.due("no row is lost in a full store, as all are made of the others", 0, Stores.full().lost(505));
    }

    /** "Throws IllegalStateException if it is not TOLD": made only, told before, only in the BATCH. */
    private static void lostOfWhatIsNotTold() {
        Factloom x = new Factloom();
        Check.dueThrow("a new store", STATE, () -> x.lost(5));
        x.tell(5, 1);
        Check.dueThrow("in the batch", STATE, () -> x.lost(5));
        x.commit();
        Check.due("told", 1, x.lost(5));
        x.rule(4, 5, -1);
        Check.dueThrow("made only", STATE, () -> x.lost(4));
        x.unsay(5);
        Check.due("to be unsaid", 2, x.lost(5));
        x.commit();
        Check.dueThrow("told before", STATE, () -> x.lost(5));
    }

    /** By HEADS, as it would be unsaid: all ROWS of its HEADS. */
    private static void lostByHeads() {
        Factloom x = new Factloom();
        x.tell(100, 1);
        x.tell(200, 1);
        x.commit();
        x.rule(15, 100, -1);
        x.rule(25, 200, -1);
        Check.due("one row and what it makes", 2, x.lost(100));
        Check.dueThrow("not told", STATE, () -> x.lost(300));
        x.join(1, 2);
        Check.due("two rows are one triple, and make one", 2, x.lost(100));
        Check.due("by the other word", 2, x.lost(200));
        x.join(2, 3);
        Check.due("by a third one", 2, x.lost(300));
    }

    private static void lostChangesNothing() {
        Factloom x = Stores.rich();
        Check.due("102, 103 and 104", 3, x.lost(102));
        Check.due("nothing is changed", Twin.portrait(Stores.rich()), Twin.portrait(x));
    }

    /** All is SOUND in each of these. */
    private static void soundAnywhere() {
        Check.due("new", true, new Factloom().isSound());
        Check.due("60 rows", true, Stores.rows(60).isSound());
        Check.due("moment 50", true, Stores.atMoment(50).isSound());
        Check.due("rich", true, Stores.rich().isSound());
        Check.due("full", true, Stores.full().isSound());
        Factloom x = Stores.full();
        x.single(0, true);
        Check.due("six heads broken", true, x.isSound());
        x.join(0, 5);
        x.join(1, 4);
        Check.due("joined", true, x.isSound());
        x.rule(666, 678, -1);
        x.rule(789, 987, -1);
        x.pattern(678);
        x.pattern(789);
        x.pattern(896);
        Check.due("three rules and three patterns", true, x.isSound());
        for (int k = 0; k < 6; k++) {
            for (int n = 0; n < 6; n++) {
                x.unsay(k * 100 + n);
            }
            x.single(0, false);
            if (k % 2 == 1) {
                x.commit();
            }
        }
        Check.due("nothing holds", 0, x.store(3));
        Check.due("nothing holds, so no merit is above no trust", true, x.isSound());
    }

    /** The store is made twice, as an object is used for at most 512 calls. */
    private static List<Long> numbers(Stores.Build build) {
        List<Long> all = new ArrayList<>();
        Factloom x = build.make();
        for (int what = 0; what <= 11; what++) {
            all.add((long) x.store(what));
        }
        addFacts(all, build.make());
        int answers = x.answers();
        all.add((long) answers);
        for (int nth = 0; nth < answers; nth++) {
            all.add((long) x.answer(nth));
        }
        all.add(x.bound());
        int now = x.store(0);
        for (int moment = 0; moment <= now; moment++) {
            all.add((long) x.past(moment));
        }
        all.add((long) x.chain(0, 1, 2));
        all.add((long) x.broken());
        all.add(x.isSound() ? 1L : 0L);
        return all;
    }

    private static void addFacts(List<Long> all, Factloom x) {
        for (int nth = 0; nth < 216; nth++) {
            int triple = Stores.nthTriple(nth);
            if (x.ofFact(triple, 6) == triple && x.ofFact(triple, 1) == 1) {
                all.add((long) triple);
                for (int what = 2; what <= 5; what++) {
                    all.add((long) x.ofFact(triple, what));
                }
            }
        }
    }

    private static BigInteger unwrapped(List<Long> numbers) {
        BigInteger d = BigInteger.valueOf(8629);
        for (long v : numbers) {
            d = d.multiply(BigInteger.valueOf(31)).add(BigInteger.valueOf(v));
        }
        return d;
    }

    /** "A number d starts with 8629": the digest of a new store, each number told by the document. */
    private static void digestStarts() {
        long[] due = {0, 0, 0, 0, -1, 0, 0, 6, 0, 0, 0, 0, 1, 9999, 1, 0, -1, 0, 1};
        List<Long> numbers = new ArrayList<>();
        for (long v : due) {
            numbers.add(v);
        }
        Check.due("the numbers of a new store", numbers, numbers(Factloom::new));
        Check.due("its digest", unwrapped(numbers).longValue(), new Factloom().digest());
    }

    /** "which wraps around as a 64-bit integer". */
    private static void digestWrapsAround() {
        BigInteger d = unwrapped(numbers(Factloom::new));
        Check.due("it does not fit without", true, d.bitLength() > 63);
        Factloom x = new Factloom();
        boolean below = false;
        boolean above = false;
        for (int moment = 0; moment <= 50; moment++) {
            long digest = x.digest();
            below = below || digest < 0;
            above = above || digest > 0;
            if (moment < 50) {
                x.commit();
            }
        }
        Check.due("it is below 0, and above", true, below && above);
    }

    private static void dueDigest(String what, Stores.Build build) {
        Check.due(what, unwrapped(numbers(build)).longValue(), build.make().digest());
    }

    /** "TRIPLE by TRIPLE (000 to 555) that HOLDS and is one of HEADS", "each ANSWER", "MOMENT by MOMENT". */
    private static void digestOfEachStore() {
        dueDigest("moment 50", () -> Stores.atMoment(50));
        dueDigest("rich", Stores::rich);
        dueDigest("six rows", () -> Stores.rows(6));
        dueDigest("no answers", () -> asked(444));
        dueDigest("many answers", () -> asked(678));
        dueDigest("chain by 0 from 1 to 2", () -> chained(0, 1, 2));
        dueDigest("chain by another word", () -> chained(3, 1, 2));
        dueDigest("chain from another word", () -> chained(0, 3, 2));
        dueDigest("chain to another word", () -> chained(0, 1, 3));
        dueDigest("000 and 555", WouldBeEdgesTest::firstAndLast);
        List<Long> numbers = numbers(WouldBeEdgesTest::firstAndLast);
        Check.due("000 first", 0L, numbers.get(12));
        Check.due("555 next", 555L, numbers.get(17));
    }

    private static Factloom asked(int pattern) {
        Factloom x = Stores.rich();
        x.clear();
        x.pattern(pattern);
        return x;
    }

    private static Factloom chained(int word, int from, int to) {
        Factloom x = new Factloom();
        x.tell(from * 100 + word * 10 + 5, 1);
        x.tell(500 + word * 10 + to, 1);
        x.commit();
        return x;
    }

    private static Factloom firstAndLast() {
        Factloom x = new Factloom();
        x.tell(555, 9);
        x.tell(0, 1);
        x.commit();
        return x;
    }

    /** Each number that the digest is of changes it, and what it is not of does not. */
    private static void digestSeesEachNumber() {
        long plain = Stores.rich().digest();
        List<Twin.Use> changes = new ArrayList<>();
        changes.add(x -> x.drop());
        changes.add(x -> x.tell(0, 1));
        changes.add(x -> x.commit());
        changes.add(x -> x.join(0, 4));
        changes.add(x -> x.part());
        changes.add(x -> x.single(0, true));
        changes.add(x -> x.rule(0, 0, -1));
        changes.add(x -> x.unrule());
        changes.add(x -> x.pattern(678));
        changes.add(x -> x.not(-1));
        changes.add(x -> x.clear());
        for (int k = 0; k < changes.size(); k++) {
            Factloom x = Stores.rich();
            changes.get(k).on(x);
            Check.due("the change " + k + " changes it", false, plain == x.digest());
        }
        Factloom x = Stores.rich();
        x.single(1, true);
        x.join(3, 5);
        Check.due("what changes nothing does not", plain, x.digest());
        Check.due("nor does the digest", plain, x.digest());
    }

    /** "An object is used for at most 512 calls after it has been made": the last one answers as the first. */
    private static void lastCall() {
        Factloom x = new Factloom();
        long first = x.digest();
        for (int k = 1; k < 511; k += 2) {
            x.tell(5, 1);
            x.drop();
        }
        Check.due("the call 512", first, x.digest());
    }
}
