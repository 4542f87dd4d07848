/** The boundary cases of part 3 and of promises 9 and 10: rules, what holds, depth, ways, merit. */
public final class RuleEdgesTest {
    private static final Class<IllegalArgumentException> ARGUMENT = IllegalArgumentException.class;
    private static final Class<IllegalStateException> STATE = IllegalStateException.class;

    public static void main(String[] args) {
        threeRules();
        unruleTillNone();
        threeLetters();
        fourLetters();
        lettersOfMade();
        noLetters();
        oneOrTwo();
        toRest();
        nothingOfNothing();
        madeOfItself();
        depthOfTold();
        depthIsTheLeast();
        depthOfTheGreater();
        deepest();
        waysNoneToMany();
        meritNoneToNine();
        meritOfOneWay();
        meritOfRowsThatHold();
        Check.end();
    }

    /** "RULES: at most 3, numbered from 0", "Throws IllegalStateException if there are 3". */
    private static void threeRules() {
        Factloom x = new Factloom();
        Check.due("none at first", 0, x.store(5));
        for (int number = 0; number <= 2; number++) {
            Check.due("its number", number, x.rule(number, 0, -1));
            Check.due("rules", number + 1, x.store(5));
        }
        Check.dueThrow("the fourth one", STATE, () -> x.rule(3, 0, -1));
        Check.dueThrow("the same one again", STATE, () -> x.rule(0, 0, -1));
        Check.due("rules", 3, x.store(5));
        Check.due("unrule", 2, x.unrule());
        Check.due("there is room again", 2, x.rule(4, 0, -1));
        Check.dueThrow("and none again", STATE, () -> x.rule(3, 0, -1));
    }

    /** "Takes the last RULE away", "Throws IllegalStateException if there is none". */
    private static void unruleTillNone() {
        Factloom x = new Factloom();
        Check.dueThrow("of none", STATE, x::unrule);
        x.tell(0, 1);
        x.commit();
        x.rule(1, 0, -1);
        x.rule(2, 0, -1);
        x.rule(3, 0, -1);
        Check.due("by the last one", "r2:000", x.why(3));
        for (int left = 2; left >= 0; left--) {
            Check.due("rules left", left, x.unrule());
            Check.due("store(5)", left, x.store(5));
            Check.due("what holds", left + 1, x.store(3));
            Check.due("not by the last one", "no", x.why(left + 1));
        }
        Check.dueThrow("of none again", STATE, x::unrule);
        Check.due("store(5)", 0, x.store(5));
    }

    /** "at most 3 unlike LETTERS in all": three, however often each one stands. */
    private static void threeLetters() {
        int[][] allowed = {{678, 678, 678}, {678, 667, 778}, {789, 789, 987}, {0, 678, -1}, {0, 6, 78},
            {0, 679, 96}, {999, 789, 0}, {666, 666, 666}, {689, 689, -1}, {70, 700, 70}};
        for (int[] one : allowed) {
            Check.due("rule of three letters at most", 0, new Factloom().rule(one[0], one[1], one[2]));
        }
    }

    /** "Throws IllegalArgumentException if .. there are more than 3 unlike LETTERS in all". */
    private static void fourLetters() {
        int[][] refused = {{0, 678, 9}, {0, 9, 678}, {0, 678, 900}, {0, 678, 90}, {0, 789, 6}, {0, 69, 78},
            {0, 697, 889}, {678, 678, 699}, {9, 678, 9}, {6, 789, 666}};
        for (int[] one : refused) {
            Factloom x = new Factloom();
            Check.dueThrow("rule of four letters", ARGUMENT, () -> x.rule(one[0], one[1], one[2]));
            Check.due("no rule", 0, x.store(5));
        }
        Factloom x = new Factloom();
        Check.dueThrow("the fourth one in what is made", ARGUMENT, () -> x.rule(9, 678, -1));
        Check.dueThrow("three in what is made, one besides", ARGUMENT, () -> x.rule(678, 900, -1));
    }

    /** "each LETTER of the first one is in one of these", "or one of made is in none of the others". */
    private static void lettersOfMade() {
        for (int letter = 6; letter <= 9; letter++) {
            int other = letter == 9 ? 6 : letter + 1;
            for (int place = 1; place <= 100; place *= 10) {
                int made = letter * place;
                Factloom x = new Factloom();
                Check.due("it is in the first one", 0, x.rule(made, letter * 10, other));
                Check.due("it is in the second one", 1, x.rule(made, other, letter * 10));
                Check.due("it is in the only one", 2, x.rule(made, letter * 100, -1));
                Factloom y = new Factloom();
                Check.dueThrow("it is in none", ARGUMENT, () -> y.rule(made, other, other * 100));
                Check.dueThrow("it is not in the only one", ARGUMENT, () -> y.rule(made, other, -1));
                Check.dueThrow("there are no letters", ARGUMENT, () -> y.rule(made, 0, -1));
                Check.due("no rule", 0, y.store(5));
            }
        }
        Factloom x = new Factloom();
        Check.dueThrow("one of three is in none", ARGUMENT, () -> x.rule(678, 667, 766));
        Check.due("each in another one", 0, x.rule(67, 600, 700));
        Check.due("none is needed in made", 1, x.rule(0, 678, 876));
    }

    /** A RULE without LETTERS has one BINDING. */
    private static void noLetters() {
        Factloom x = new Factloom();
        x.tell(1, 1);
        x.tell(2, 1);
        x.commit();
        x.rule(555, 1, -1);
        Check.due("by one", "r0:001", x.why(555));
        x.rule(444, 1, 2);
        Check.due("by two", "r1:001,002", x.why(444));
        Check.due("one way", 1, x.ofFact(444, 3));
        x.rule(333, 1, 3);
        Check.due("one of both does not hold", "no", x.why(333));
    }

    /** "one or two PATTERNS of which it is made": NONE as the other one, or the same one twice. */
    private static void oneOrTwo() {
        Factloom x = new Factloom();
        x.tell(12, 5);
        x.commit();
        x.rule(676, 716, -1);
        Check.due("of one", "r0:012", x.why(202));
        x.unrule();
        x.rule(676, 716, 716);
        Check.due("of the same one twice", "r0:012,012", x.why(202));
        Check.due("as deep", 1, x.ofFact(202, 2));
        Check.due("in as many ways", 1, x.ofFact(202, 3));
        Check.due("of as much merit", 5, x.ofFact(202, 4));
    }

    /** "HOLDS (now): what is TOLD in the MOMENT of now, and what is MADE so, to rest." */
    private static void toRest() {
        Factloom x = Stores.full();
        Check.due("all there are", 216, x.store(3));
        Check.due("of these told", 36, x.store(2));
        x.unsay(505);
        x.commit();
        Check.due("505 is made of 500 and 005 then, and all the others of it", 216, x.store(3));
        Check.due("why", "r0:500,005", x.why(505));
        x.unsay(500);
        x.commit();
        Check.due("neither 500 nor 505, so no 55w, w50, w55", 216 - 2 - 16, x.store(3));
        Check.due("500 is made of itself alone", "no", x.why(500));
        Check.due("505 of 500", "no", x.why(505));
        Check.due("551 of 505", "no", x.why(551));
        Check.due("but 451 of what is told", "r0:405,501", x.why(451));
    }

    /** "what is TOLD in the MOMENT of now": a RULE makes nothing of nothing, nor of what was told before. */
    private static void nothingOfNothing() {
        Factloom x = new Factloom();
        x.rule(678, 678, -1);
        x.rule(0, 607, 708);
        Check.due("nothing holds", 0, x.store(3));
        Check.due("no depth", -1, x.store(4));
        x.tell(101, 1);
        x.commit();
        Check.due("and then it does", 2, x.store(3));
        x.unsay(101);
        x.commit();
        Check.due("nothing holds, to rest", 0, x.store(3));
        Check.due("no depth", -1, x.store(4));
    }

    /** What is only made of itself does not HOLD; what HOLDS and is made of itself is no deeper by that. */
    private static void madeOfItself() {
        Factloom x = new Factloom();
        x.rule(1, 2, -1);
        x.rule(2, 1, -1);
        Check.due("a circle of nothing", "no", x.why(1));
        x.tell(3, 4);
        x.commit();
        x.rule(1, 3, -1);
        Check.due("a circle of something", "r2:003", x.why(1));
        Check.due("depth", 1, x.ofFact(1, 2));
        Check.due("depth", 2, x.ofFact(2, 2));
        Check.due("ways, by the deeper one, too", 2, x.ofFact(1, 3));
        x.unsay(3);
        x.commit();
        Check.due("a circle of nothing again", 0, x.store(3));
    }

    /** "DEPTH of a TRIPLE that HOLDS: 0, if it is TOLD". */
    private static void depthOfTold() {
        Factloom x = new Factloom();
        Check.due("of what does not hold", -1, x.ofFact(1, 2));
        Check.due("of none that holds", -1, x.store(4));
        x.tell(0, 1);
        x.tell(1, 1);
        x.commit();
        x.rule(1, 0, -1);
        Check.due("told, though made, too", 0, x.ofFact(1, 2));
        Check.due("the greatest one", 0, x.store(4));
        x.unsay(1);
        x.commit();
        Check.due("made only", 1, x.ofFact(1, 2));
        Check.due("the greatest one", 1, x.store(4));
    }

    /** "by that RULE and BINDING by which that is the least". */
    private static void depthIsTheLeast() {
        Factloom x = new Factloom();
        x.tell(0, 1);
        x.commit();
        x.rule(2, 1, -1);
        x.rule(1, 0, -1);
        Check.due("by the deeper one alone", 2, x.ofFact(2, 2));
        x.rule(2, 0, -1);
        Check.due("by the less deep one, of a later rule", 1, x.ofFact(2, 2));
        Factloom y = new Factloom();
        y.tell(10, 1);
        y.tell(505, 1);
        y.commit();
        y.rule(55, 650, -1);
        y.rule(150, 10, -1);
        y.rule(450, 505, 150);
        Check.due("by the binding to 1", 2, y.ofFact(55, 2));
        Check.due("though one to 4 is deeper", 2, y.ofFact(450, 2));
        Check.due("why", "r0:150", y.why(55));
    }

    /** "1 more than the greatest DEPTH of those of which it is made". */
    private static void depthOfTheGreater() {
        Factloom x = new Factloom();
        x.tell(0, 1);
        x.commit();
        x.rule(1, 0, -1);
        x.rule(2, 1, 0);
        Check.due("of 1 and 0", 2, x.ofFact(2, 2));
        x.rule(3, 0, 2);
        Check.due("of 0 and 2", 3, x.ofFact(3, 2));
        Check.due("the greatest one", 3, x.store(4));
    }

    /** A count from 010 over 015 and 110 to 515, a step for each DEPTH. */
    private static void deepest() {
        Factloom x = new Factloom();
        x.tell(10, 6);
        for (int word = 0; word < 5; word++) {
            x.tell(word * 100 + word + 1, 7);
        }
        x.commit();
        x.rule(618, 617, 708);
        x.rule(810, 615, 608);
        for (int step = 0; step < 36; step++) {
            Check.due("the step " + step, step, x.ofFact(step / 6 * 100 + 10 + step % 6, 2));
        }
        Check.due("the greatest one", 35, x.store(4));
        Check.due("why", "r1:415,405", x.why(510));
        Check.due("of the least merit", 6, x.ofFact(515, 4));
        Check.due("all but one rest on it", 36, x.lost(10));
        x.rule(51, 515, 515);
        Check.due("one more", 36, x.ofFact(51, 2));
        Check.due("the greatest one", 36, x.store(4));
        Check.due("sound", true, x.isSound());
    }

    /** "WAYS: by how many pairs of a RULE and a BINDING (of all LETTERS of the RULE) it is made of what HOLDS." */
    private static void waysNoneToMany() {
        Factloom x = Stores.full();
        Check.due("what is told is made, too: 000 of 000", 1, x.ofFact(0, 3));
        x.unrule();
        Check.due("told and not made", 0, x.ofFact(0, 3));
        Check.due("neither", 0, x.ofFact(10, 3));
        x.rule(678, 607, 708);
        Check.due("one binding of three letters", 1, x.ofFact(555, 3));
        x.rule(0, 678, -1);
        Check.due("all bindings of three letters, and one", 217, x.ofFact(0, 3));
        x.rule(0, 678, 876);
        Check.due("of two rules, and one", 433, x.ofFact(0, 3));
        Check.due("made of itself only by the first rule", 1, x.ofFact(111, 3));
        x.unrule();
        x.rule(0, 678, 678);
        Check.due("two patterns alike are no two ways", 433, x.ofFact(0, 3));
        x.unrule();
        x.rule(600, 677, 0);
        Check.due("letters that are not in made count", 217 + 6, x.ofFact(0, 3));
        Check.due("six and one", 7, x.ofFact(500, 3));
    }

    /** "MERIT: the greatest t (1 to 9)", "4 MERIT (0, if it does not HOLD)". */
    private static void meritNoneToNine() {
        for (int trust = 1; trust <= 9; trust++) {
            for (int other = 1; other <= 9; other++) {
                Factloom x = new Factloom();
                x.tell(1, trust);
                x.tell(2, other);
                x.commit();
                x.rule(3, 1, 2);
                Check.due("of both", Math.min(trust, other), x.ofFact(3, 4));
                x.rule(4, 1, -1);
                x.rule(4, 2, -1);
                Check.due("of one", Math.max(trust, other), x.ofFact(4, 4));
                Check.due("of none", 0, x.ofFact(5, 4));
            }
        }
    }

    /** All that one way is made of counts; the best way counts, though it be the deeper one. */
    private static void meritOfOneWay() {
        Factloom x = new Factloom();
        x.tell(0, 9);
        x.tell(1, 2);
        x.commit();
        x.rule(5, 1, -1);
        x.rule(4, 0, -1);
        x.rule(5, 4, -1);
        Check.due("by the less deep one", "r0:001", x.why(5));
        Check.due("the merit by the deeper one", 9, x.ofFact(5, 4));
        x.tell(4, 1);
        x.commit();
        Check.due("told with less trust than it has merit", 9, x.ofFact(4, 4));
        Check.due("told", "told", x.why(4));
    }

    /** "if of the ROWS that hold only those with a TRUST of t or more did". */
    private static void meritOfRowsThatHold() {
        Factloom x = new Factloom();
        x.tell(100, 9);
        x.tell(200, 3);
        x.commit();
        x.rule(500, 200, -1);
        x.join(1, 2);
        Check.due("the best row of its heads", 9, x.ofFact(200, 4));
        Check.due("and what is made of it", 9, x.ofFact(500, 4));
        x.part();
        Check.due("its own row", 3, x.ofFact(500, 4));
        x.unsay(100);
        x.commit();
        x.join(1, 2);
        Check.due("a row that does not hold any more", 3, x.ofFact(500, 4));
        x.tell(200, 8);
        Check.due("nor one that is in the batch", 3, x.ofFact(500, 4));
        x.commit();
        Check.due("till it is told", 8, x.ofFact(500, 4));
    }
}
