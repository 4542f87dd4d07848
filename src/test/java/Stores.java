/** Stores that several tests begin with; each call makes a new one. */
final class Stores {
    static final int MIN = Integer.MIN_VALUE;
    static final int MAX = Integer.MAX_VALUE;
    static final int[] NO_WORDS = {-1, 6, 7, 9, 10, MIN, MAX};
    static final int[] NO_TRIPLES = {-1, 6, 9, 60, 96, 556, 560, 600, 900, 1000, 1111, -111, MIN, MAX};
    static final int[] NO_PATTERNS = {-2, -100, 1000, 1066, MIN, MAX};

    interface Build {
        Factloom make();
    }

    private Stores() {
    }

    static boolean isTriple(int number) {
        return number >= 0 && number <= 555 && number / 10 % 10 <= 5 && number % 10 <= 5;
    }

    /** The nth triple of all 216. */
    static int nthTriple(int nth) {
        return nth / 36 * 100 + nth / 6 % 6 * 10 + nth % 6;
    }

    /** So many rows, of the first triples, told with trust 1 by batches of twelve. */
    static Factloom rows(int count) {
        Factloom x = new Factloom();
        for (int nth = 0; nth < count; nth++) {
            x.tell(nthTriple(nth), 1);
            if (nth % 12 == 11 || nth == count - 1) {
                x.commit();
            }
        }
        return x;
    }

    /** A store in this moment, with one triple that was told at 1. */
    static Factloom atMoment(int moment) {
        Factloom x = new Factloom();
        x.tell(123, 4);
        for (int k = 0; k < moment; k++) {
            x.commit();
        }
        return x;
    }

    /** All 216 triples hold: 36 are told, the others are made by the rule 0. */
    static Factloom full() {
        Factloom x = new Factloom();
        for (int first = 0; first < 6; first++) {
            for (int third = 0; third < 6; third++) {
                x.tell(first * 100 + third, 2);
            }
            if (first % 2 == 1) {
                x.commit();
            }
        }
        x.rule(678, 607, 708);
        return x;
    }

    /** Something of all: rows that hold and one that has ended, a join, shapes, rules, a question, a batch. */
    static Factloom rich() {
        Factloom x = new Factloom();
        x.tell(102, 3);
        x.tell(203, 5);
        x.tell(304, 9);
        x.tell(415, 1);
        x.commit();
        x.unsay(415);
        x.tell(215, 2);
        x.tell(113, 4);
        x.commit();
        x.join(5, 3);
        x.single(1, true);
        x.single(4, true);
        x.rule(608, 607, 708);
        x.rule(414, 616, -1);
        x.pattern(607);
        x.pattern(708);
        x.not(816);
        x.tell(515, 6);
        x.unsay(203);
        return x;
    }
}
