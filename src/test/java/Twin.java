/**
 * "A method that throws an exception changes nothing": of two stores made alike one is asked the call that is
 * refused; then both are asked, and taken down piece by piece, alike, and have to answer the same.
 */
final class Twin {
    interface Use {
        Object on(Factloom x);
    }

    private Twin() {
    }

    static void dueRefused(String what, Class<? extends RuntimeException> due, Stores.Build build, Use refused) {
        Factloom asked = build.make();
        Check.dueThrow(what, due, () -> refused.on(asked));
        Check.due(what + " changed nothing", portrait(build.make()), portrait(asked));
    }

    /** All that can be seen of a store by some 300 calls; it is taken down by that. */
    static String portrait(Factloom x) {
        StringBuilder seen = new StringBuilder();
        note(seen, "digest", () -> x.digest());
        for (int nth = 0; nth < 216; nth += 3) {
            int triple = Stores.nthTriple(nth);
            note(seen, "why " + triple, () -> x.why(triple));
        }
        for (int word = 0; word < 6; word++) {
            int triple = word * 111;
            note(seen, "heads", () -> x.ofFact(triple, 6));
        }
        question(seen, x);
        batch(seen, x);
        for (int k = 0; k < 3; k++) {
            note(seen, "unrule", () -> x.unrule());
            note(seen, "digest", () -> x.digest());
        }
        note(seen, "part", () -> x.part());
        note(seen, "digest", () -> x.digest());
        for (int moment = 0; moment <= x.store(0); moment++) {
            int then = moment;
            note(seen, "past", () -> x.past(then));
        }
        return seen.toString();
    }

    private static void note(StringBuilder seen, String what, Check.Call call) {
        seen.append(what).append(' ').append(Check.outcome(call)).append("; ");
    }

    private static void question(StringBuilder seen, Factloom x) {
        for (int k = 0; k < 3; k++) {
            int nth = k;
            note(seen, "size", () -> x.size(nth));
            note(seen, "answer", () -> x.answer(nth));
        }
        note(seen, "not", () -> x.not(-1));
        note(seen, "digest", () -> x.digest());
        note(seen, "clear", () -> x.clear());
        note(seen, "pattern", () -> x.pattern(876));
        note(seen, "digest", () -> x.digest());
    }

    /** What the batch holds shows by commit or, where that is refused, by what would be broken by each word. */
    private static void batch(StringBuilder seen, Factloom x) {
        note(seen, "singles", () -> x.store(11));
        for (int k = 0; k < 6; k++) {
            int word = k;
            note(seen, "single", () -> x.single(word, true));
            note(seen, "broken", () -> x.broken());
            note(seen, "single", () -> x.single(word, false));
        }
        note(seen, "batch", () -> x.store(6));
        note(seen, "commit", () -> x.commit());
        note(seen, "digest", () -> x.digest());
        note(seen, "drop", () -> x.drop());
    }
}
