/** Promises 26 and 27: isSound, digest. The model says what the digest is of more runs. */
public final class DigestTest {
    public static void main(String[] args) {
        digestOfNew();
        digestOfSome();
        digestChangesNothing();
        sound();
        Check.end();
    }

    private static long mix(long d, long v) {
        return d * 31 + v;
    }

    private static void digestOfNew() {
        long d = 8629;
        int[] stores = {0, 0, 0, 0, -1, 0, 0, 6, 0, 0, 0, 0};
        for (int v : stores) {
            d = mix(d, v);
        }
        long[] rest = {1, 9999, 1, 0, -1, 0, 1};
        for (long v : rest) {
            d = mix(d, v);
        }
        Check.due("digest of a new one", d, new Factloom().digest());
    }

    /** Each number as the document tells it, by the calls of the face. */
    private static long byFace(Factloom x) {
        long d = 8629;
        for (int what = 0; what <= 11; what++) {
            d = mix(d, x.store(what));
        }
        for (int triple = 0; triple <= 555; triple++) {
            boolean isTriple = triple / 10 % 10 < 6 && triple % 10 < 6;
            if (isTriple && x.ofFact(triple, 6) == triple && x.ofFact(triple, 1) == 1) {
                d = mix(d, triple);
                for (int what = 2; what <= 5; what++) {
                    d = mix(d, x.ofFact(triple, what));
                }
            }
        }
        d = mix(d, x.answers());
        for (int nth = 0; nth < x.answers(); nth++) {
            d = mix(d, x.answer(nth));
        }
        d = mix(d, x.bound());
        for (int moment = 0; moment <= x.store(0); moment++) {
            d = mix(d, x.past(moment));
        }
        d = mix(d, x.chain(0, 1, 2));
        d = mix(d, x.broken());
        return mix(d, x.isSound() ? 1 : 0);
    }

    private static Factloom some() {
        Factloom x = new Factloom();
        x.tell(105, 2);
        x.tell(502, 9);
        x.tell(304, 4);
        x.tell(125, 5);
        x.commit();
        x.unsay(304);
        x.commit();
        x.single(2, true);
        x.single(3, true);
        x.join(5, 3);
        x.rule(608, 607, 708);
        x.pattern(607);
        x.pattern(678);
        x.not(876);
        x.tell(123, 1);
        x.tell(124, 1);
        return x;
    }

    private static void digestOfSome() {
        Check.due("digest by the face", byFace(some()), some().digest());
        Factloom x = new Factloom();
        x.tell(0, 9);
        x.tell(555, 1);
        x.commit();
        Check.due("from 000 to 555", byFace(x), x.digest());
    }

    private static void digestChangesNothing() {
        Factloom x = some();
        long first = x.digest();
        Check.due("digest again", first, x.digest());
        Check.due("the batch stays", 2, x.store(6));
        x.drop();
        Check.due("digest is another one then", false, first == x.digest());
    }

    private static void sound() {
        Factloom x = some();
        Check.due("some", true, x.isSound());
        x.clear();
        Check.due("no question", true, x.isSound());
        x.part();
        Check.due("parted", true, x.isSound());
        x.pattern(678);
        Check.due("three told and one made", 4, x.answers());
        x.pattern(444);
        Check.due("no answers, as one does not hold", true, x.isSound());
        Factloom full = new Factloom();
        for (int word = 0; word < 6; word++) {
            full.tell(word * 111, 1 + word);
        }
        full.commit();
        full.rule(667, 666, 777);
        full.rule(678, 667, 778);
        full.pattern(678);
        full.pattern(789);
        full.pattern(896);
        Check.due("full", true, full.isSound());
    }
}
