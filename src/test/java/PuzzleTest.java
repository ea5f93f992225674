/** Promises 25 to 29, 32 to 35, 39 to 41: what has to be searched for. */
public final class PuzzleTest {
    private static final Check C = new Check("PuzzleTest");
    private static final Class<IllegalArgumentException> ARGUMENT = IllegalArgumentException.class;
    private static final Class<IndexOutOfBoundsException> BOUNDS = IndexOutOfBoundsException.class;
    private static final String SEVEN = "person 1;".repeat(6) + "person 1";

    public static void main(String[] args) {
        backs();
        gives();
        never();
        question();
        queries();
        game();
        steps();
        trial();
        span();
        rows();
        rowsWrong();
        liars();
        liarsWrong();
        married();
        C.finish();
    }

    private static void backs() {
        BackVillage v = Check.of("person 1;person 1;person 0;person 0;most 2 have 1");
        C.due("both other 1s", v.backs(2), 3);
        C.due("1 and 1 tell of 3 as well", v.backs(3), 3);
        C.due("no backs tell of a 1", v.backs(0), -2);
        BackVillage w = Check.of("person 1;person 0;person 1;unlike 0 1;alike 0 2");
        C.due("of several the least", w.backs(0), 2);
        C.due("of 2 the least", w.backs(2), 1);
        w.turn(2, 2);
        C.due("who is sure", w.backs(2), 0);
        BackVillage x = Check.of("person 0;person 0;person 0;person 1;sees 0 1;least 1 have 1;most 1 have 1");
        C.due("of 0 by 3 alone", x.backs(0), 8);
        C.due("of 3 by all others", x.backs(3), 7);
        C.due("of 2 by 3 alone", x.backs(2), 8);
        BackVillage few = Check.of("person 1;person 1;person 0;person 0;alike 2 3;most 3 have 1");
        C.due("one, though two others are less as bits", few.backs(3), 4);
        C.due("of two", few.backs(0), -2);
        C.dueThrow("no such person", () -> v.backs(4), BOUNDS);
        C.dueThrow("below", () -> v.backs(-1), BOUNDS);
    }

    private static void gives() {
        BackVillage v = Check.of("person 1;person 0;person 1;sees 1 0;sees 2 0;sees 0 1");
        C.due("without a law", v.gives(0), 0);
        Check.rule(v, "act 1 if theirs > 0");
        C.due("by both who see one", v.gives(0), 6);
        C.due("by the one who sees one", v.gives(1), 1);
        C.due("by nobody", v.gives(2), 0);
        Check.rule(v, "act 1 if theirs > 0 and who > 1");
        C.due("by 2 alone", v.gives(0), 4);
        Check.rule(v, "act 1 if theirs > 0 and seen");
        C.due("by whom one sees", v.gives(0), 2);
        v.turn(0, 0);
        C.due("who is sure would be sure then by all, oneself not told", v.gives(0), 6);
        BackVillage m = Check.of("person 1;person 1;sees 0 1;sees 1 0;least 1 have 1");
        Check.rule(m, "act 1 if sure");
        C.due("by one who is not sure", m.gives(0), 2);
        C.dueThrow("no such person", () -> v.gives(3), BOUNDS);
        C.dueThrow("below", () -> v.gives(-1), BOUNDS);
    }

    private static void never() {
        BackVillage v = Check.of("values 3;person 0;person 0;person 1;sees 1 0;sees 2 0;sees 0 1");
        C.due("without a law", v.never(0), 6);
        Check.rule(v, "act 1 if theirs > 1");
        C.due("it does in a world of 2", v.never(0), 0);
        C.due("but not here", v.gives(0), 0);
        Check.rule(v, "act 1 if theirs > 1 and who < 2");
        C.due("2 never does", v.never(0), 4);
        C.due("of whom 0 sees", v.never(1), 0);
        C.due("whom nobody sees", v.never(2), 0);
        BackVillage least = Check.of("values 3;person 1;person 0;sees 1 0");
        least.read(1);
        Check.rule(least, "act 1 if theirs < 1");
        C.due("it does in the world of 0 alone", least.never(0), 0);
        BackVillage last = Check.of("person 0;person 0;sees 0 1");
        Check.rule(last, "act 1 if theirs > 0");
        C.due("the first gives away the last", last.gives(1), 1);
        C.due("the first does at times", last.never(1), 0);
        Check.rule(last, "act 1");
        C.due("the first never does", last.never(1), 1);
        v.turn(0, 0);
        C.due("one who is always sure", v.never(0), 6);
        C.due("oneself is not told", v.never(0) & 1, 0);
        C.dueThrow("no such person", () -> v.never(3), BOUNDS);
        C.dueThrow("below", () -> v.never(-1), BOUNDS);
    }

    private static void question() {
        BackVillage v = Check.of("person 0;person 1;person 1;sees 1 2;unlike 0 1");
        // whoever knows 1 would tell 0: nobody does yet
        C.due("nobody can tell", v.question(0), -1);
        v.turn(2, 1);
        C.due("2 tells of 1", v.question(0), 210);
        C.due("2 cannot be told by 0 or 1", v.question(2), -1);
        v.turn(1, 1);
        C.due("1 tells of 1 as well", v.question(0), 110);
        C.due("who is sure", v.question(1), -1);
        BackVillage w = Check.of("values 3;person 2;person 2;person 0;sees 1 0;alike 0 1");
        // 1 is sure by seeing 0; that its notice is none of 0 and 1 needs two queries, that it is 2 one
        C.due("of the greatest notice", w.question(0), 112);
        C.due("1 is sure", w.question(1), -1);
        w.turn(2, 0);
        C.due("of several the least whom", w.question(0), 112);
        BackVillage least = Check.of("values 3;person 2;person 2;person 0;sees 2 0;alike 0 1");
        C.due("whose ahead of the notice", least.question(0), 212);
        C.due("whose is not that one", least.question(1), 202);
        C.dueThrow("no such person", () -> v.question(3), BOUNDS);
        C.dueThrow("below", () -> v.question(-1), BOUNDS);
    }

    private static void queries() {
        BackVillage v = Check.of("person 0;person 1;person 0;least 1 have 1;most 1 have 1");
        C.due("nobody knows a thing", v.queries(0), -1);
        v.turn(1, 1);
        C.due("1 tells of itself", v.queries(0), 1);
        C.due("1 is sure", v.queries(1), 0);
        BackVillage w = Check.of("person 0;person 0;person 0;most 1 have 1;least 0 have 0;sees 1 2;sees 2 1");
        // that neither 1 nor 2 has a 1 leaves 0 in doubt: 000 and 100
        C.due("no queries tell of 0", w.queries(0), -1);
        BackVillage x = Check.of("person 1;person 0;person 0;most 1 have 1;least 1 have 1;sees 1 2;sees 2 1");
        C.due("one query of 0 is too few", x.question(0), -1);
        C.due("two are enough", x.queries(0), 2);
        BackVillage two = Check.of("person 1;person 0;person 0;person 0;least 1 have 1;most 1 have 1");
        two.turn(1, 2);
        two.turn(2, 1);
        two.turn(3, 3);
        C.due("two are too few", two.queries(0), -1);
        two.turn(1, 3);
        C.due("two are enough, as 1 does not know its own", two.queries(0), 2);
        Check.tell(two, "");
        C.due("nothing was asked", two.count(6), 4);
        C.due("6 people", Check.of("person 1;".repeat(5) + "person 1").queries(0), -1);
        BackVillage seven = Check.of(SEVEN);
        C.due("7 people", seven.queries(0), -3);
        seven.turn(0, 0);
        C.due("7 people, one is sure", seven.queries(0), -3);
        C.dueThrow("no such person", () -> seven.queries(7), BOUNDS);
        C.dueThrow("below", () -> seven.queries(-1), BOUNDS);
    }

    private static void game() {
        BackVillage one = Check.of("person 1");
        C.due("of one alone", one.game(0, false), 0);
        C.due("nobody is read out", one.game(0, true), -1);
        one.turn(0, 0);
        C.due("who is sure", one.game(0, false), -2);
        C.due("who is sure, whom", one.game(0, true), -2);
        BackVillage two = Check.of("person 1;person 0;unlike 0 1");
        C.due("the first must", two.game(0, false), -1);
        C.due("whom the first must", two.game(0, true), 1);
        BackVillage three = Check.of("person 1;person 0;person 0;unlike 0 1");
        C.due("the second must", three.game(0, false), 1);
        C.due("the first reads out the harmless one", three.game(0, true), 2);
        BackVillage nobody = Check.of("person 1;person 0;person 0;person 1");
        C.due("nobody wins", nobody.game(2, false), 0);
        C.due("of several the least", nobody.game(2, true), 0);
        C.due("the least other one", nobody.game(0, true), 1);
        BackVillage all = Check.of("person 0;person 0;person 0;person 1;least 1 have 1;most 1 have 1");
        // of 3: sure as the third of 0, 1, 2 is read out: the first reads the third
        C.due("the first reads the last", all.game(3, false), -1);
        C.due("of several bad ones the least", all.game(3, true), 0);
        // of 0: 3 makes it sure at once, else behind 1 and 2 it is 3 or oneself, 3 must be read
        C.due("of 0", all.game(0, false), -1);
        C.dueThrow("no such person", () -> one.game(1, true), BOUNDS);
        C.dueThrow("below", () -> one.game(-1, false), BOUNDS);
    }

    private static void steps() {
        BackVillage v = Check.of("person 1;person 0;person 1;person 0;person 1;sees 0 1;sees 1 2;sees 2 3;sees 0 3;"
            + "sees 3 1");
        int[][] want = {{0, 1, 2, 1, -1}, {-1, 0, 1, 2, -1}, {-1, 2, 0, 1, -1}, {-1, 1, 2, 0, -1}, {-1, -1, -1, -1, 0}};
        for (int p = 0; p < 5; p++) {
            for (int q = 0; q < 5; q++) {
                C.due("steps " + p + " to " + q, v.steps(p, q), want[p][q]);
            }
        }
        BackVillage chain = Check.of("person 1;".repeat(8) + "person 1");
        Check.tell(chain, "sees 0 1;sees 1 2;sees 2 3;sees 3 4;sees 4 5;sees 5 6;sees 6 7;sees 7 8");
        C.due("as many as there can be", chain.steps(0, 8), 8);
        C.due("back", chain.steps(8, 0), -1);
        C.dueThrow("no such person", () -> v.steps(5, 0), BOUNDS);
        C.dueThrow("no such other one", () -> v.steps(0, -1), BOUNDS);
    }

    private static BackVillage strollers() {
        BackVillage v = Check.of("person 1;person 0;person 1;sees 0 1;sees 1 2;sees 2 0");
        Check.rule(v, "act 1 if theirs > 0");
        return v;
    }

    private static void trial() {
        BackVillage v = strollers();
        C.due("by 0", v.trial(0), 0);
        for (int n = 1; n <= 30; n++) {
            BackVillage w = strollers();
            int behind = v.trial(n);
            w.stroll(n);
            C.due("trial by " + n, behind, w.count(8));
        }
        v.turn(0, 0);
        C.due("by 0, one is sure", v.trial(0), 1);
        v.seed(-77);
        int behind = v.trial(9);
        C.due("nothing stays of it", v.seed(-77), -77);
        v.stroll(9);
        C.due("from now on", v.count(8), behind);
        C.due("of nobody", new BackVillage().trial(30), 0);
        C.dueThrow("by -1", () -> v.trial(-1), ARGUMENT);
        C.dueThrow("by 31", () -> v.trial(31), ARGUMENT);
    }

    private static void span() {
        for (int n = 0; n <= 30; n++) {
            BackVillage v = strollers();
            int fewest = 9;
            int most = 0;
            for (int s = 1; s <= 6; s++) {
                v.seed(s);
                int many = Integer.bitCount(v.trial(n));
                fewest = Math.min(fewest, many);
                most = Math.max(most, many);
            }
            v.seed(99);
            C.due("fewest by " + n, v.span(n, false), fewest);
            C.due("most by " + n, v.span(n, true), most);
            C.due("seed behind span", v.seed(99), 99);
        }
        BackVillage pair = Check.of("person 1;person 0;sees 0 1;sees 1 0");
        Check.rule(pair, "act 1 if theirs > 0");
        // draws modulo 2: of seed 1 only the fourth pair is of two people, of all others one of the first two
        C.due("fewest by 3", pair.span(3, false), 0);
        C.due("most by 1", pair.span(1, true), 1);
        BackVillage v = strollers();
        C.due("none of 0", v.span(0, true), 0);
        v.turn(1, 1);
        C.due("one of 0", v.span(0, false), 1);
        C.due("of nobody", new BackVillage().span(30, true), 0);
        C.dueThrow("by -1", () -> v.span(-1, true), ARGUMENT);
        C.dueThrow("by 31", () -> v.span(31, false), ARGUMENT);
    }

    private static int rows(BackVillage v, String told, int k) {
        Check.tape(v, told);
        return v.rows(k);
    }

    private static void rows() {
        BackVillage v = Check.of("person 1;person 0;person 1;person 0");
        C.due("nothing told", rows(v, "", -1), 24);
        C.due("one must", rows(v, "ab\u0001", -1), 12);
        C.due("one must not", rows(v, "ab\u0000", -1), 12);
        C.due("a chain", rows(v, "ab\u0001bc\u0001cd\u0001", -1), 1);
        C.due("a ring", rows(v, "ab\u0001bc\u0001ca\u0001", -1), 0);
        C.due("must and must not", rows(v, "ab\u0001ab\u0000", -1), 0);
        C.due("must, and the other must not", rows(v, "ab\u0001ba\u0000", -1), 12);
        C.due("told twice", rows(v, "ab\u0001ab\u0001", -1), 12);
        int[] first = {2, 0, 1, 3};
        for (int k = 0; k < 4; k++) {
            C.due("place " + k, rows(v, "ca\u0001ab\u0001bd\u0001", k), first[k]);
        }
        int[] least = {1, 2, 3, 0};
        for (int k = 0; k < 4; k++) {
            C.due("place " + k + ", a last", rows(v, "ab\u0000ac\u0000ad\u0000", k), least[k]);
        }
        C.due("the last one, first of all", rows(v, "", 0), 0);
        C.due("no such place", rows(v, "", 4), -1);
        C.due("no place in no order", rows(v, "ab\u0001ba\u0001", 0), -1);
        C.due("the tape was used up", v.end(1), false);
        C.due("of nobody", rows(new BackVillage(), "", -1), 1);
        C.due("of nobody, a place", rows(new BackVillage(), "", 0), -1);
        BackVillage seven = Check.of(SEVEN);
        C.due("of 7", rows(seven, "", -1), 5040);
        C.due("of 7, a pair", rows(seven, "ga\u0001", -1), 2520);
        C.due("the tape ahead of it", rows(seven, "ga\u0001", 0), 1);
        C.due("behind it", rows(seven, "ga\u0001", 6), 0);
        BackVillage eight = Check.of("person 1;" + SEVEN);
        C.due("of 8", rows(eight, "ab\u0001", -1), -3);
        C.due("of 8, a place", rows(eight, "ab\u0001", 9), -3);
        C.dueThrow("of 8, a wrong tape", () -> rows(eight, "aa\u0001", -1), ARGUMENT);
        C.dueThrow("of 8, k below none", () -> rows(eight, "", -2), ARGUMENT);
    }

    private static void rowsWrong() {
        BackVillage v = Check.of("person 1;person 0");
        String[] wrong = {"a", "ab", "ab\u0001a", "ac\u0001", "ca\u0001", "`a\u0001", "aa\u0001", "bb\u0000", "ab\u0002",
            "ab1", "AB\u0001", "ab\u0001ab\u00ff"};
        for (String w : wrong) {
            C.dueThrow("rows of " + w.length(), () -> rows(v, w, -1), ARGUMENT);
            C.due("the tape was used up", v.end(1), false);
        }
        C.dueThrow("k -2", () -> rows(v, "ab\u0001", -2), ARGUMENT);
        C.dueThrow("a pair of nobody", () -> rows(new BackVillage(), "ab\u0001", -1), ARGUMENT);
    }

    private static int liars(BackVillage v, String told, int k, boolean who) {
        Check.tape(v, told);
        return v.liars(k, who);
    }

    private static void liars() {
        BackVillage v = Check.of("person 1;person 0;person 1");
        C.due("nothing said", liars(v, "", 0, false), 8);
        C.due("nobody lied", liars(v, "", 9, true), 0);
        C.due("one truth", liars(v, "ab\u0001", 0, false), 4);
        C.due("nobody lied in it", liars(v, "ab\u0001", 0, true), 0);
        C.due("perhaps a lie", liars(v, "ab\u0001", 1, false), 8);
        C.due("who lied", liars(v, "ab\u0001", 1, true), 1);
        String both = "ab\u0001ca\u0000cb\u0000";
        C.due("none of three", liars(v, both, 0, false), 0);
        // c said two things, and lies if one of it is not so; a and c cannot both tell the truth
        C.due("one at most", liars(v, both, 1, false), 6);
        C.due("who lied at one at most", liars(v, both, 1, true), 5);
        C.due("two at most", liars(v, both, 2, false), 8);
        C.due("of oneself", liars(v, "bb\u0001", 0, false), 4);
        v.read(1);
        C.due("of worlds left alone", liars(v, "ab\u0001", 0, false), 0);
        C.due("of worlds left, who", liars(v, "ab\u0001", 9, true), 1);
        BackVillage w = Check.of("values 4;person 3;person 0");
        C.due("of a notice", liars(w, "ab\u0003", 0, false), 4);
        C.due("of nobody", liars(new BackVillage(), "", 0, false), 1);
        C.due("the tape was used up", w.end(1), false);
    }

    private static void liarsWrong() {
        BackVillage v = Check.of("values 3;person 1;person 0");
        String[] wrong = {"a", "ab", "ab\u0001a", "ac\u0001", "ca\u0001", "`a\u0001", "ab\u0003", "ab1", "AB\u0001",
            "ab\u00ff"};
        for (String w : wrong) {
            C.dueThrow("liars of " + w.length(), () -> liars(v, w, 1, false), ARGUMENT);
            C.due("the tape was used up", v.end(1), false);
        }
        C.dueThrow("K -1", () -> liars(v, "ab\u0001", -1, false), ARGUMENT);
        C.dueThrow("K 10", () -> liars(v, "ab\u0001", 10, true), ARGUMENT);
        C.due("K 9", liars(v, "ab\u0001", 9, true), 1);
        C.due("one may say the same of oneself", liars(v, "aa\u0002", 0, false), 3);
        C.dueThrow("of nobody", () -> liars(new BackVillage(), "aa\u0000", 0, false), ARGUMENT);
    }

    private static void married() {
        BackVillage v = Check.of("person 1;person 0;person 1;person 0;sees 0 1;sees 1 0;sees 1 2;sees 2 1;sees 2 3;"
            + "sees 3 2");
        C.due("pairs", v.married(-1), 2);
        int[] want = {1, 0, 3, 2};
        for (int p = 0; p < 4; p++) {
            C.due("with " + p, v.married(p), want[p]);
        }
        BackVillage one = Check.of("person 1;person 0;person 1;sees 0 1;sees 1 0;sees 1 2;sees 2 1;sees 0 2");
        C.due("one pair", one.married(-1), 1);
        C.due("the least with the least", one.married(0), 1);
        C.due("who knows one that does not know", one.married(2), -1);
        BackVillage star = Check.of("person 1;person 0;person 1;person 0;sees 0 3;sees 3 0;sees 0 2;sees 2 0;sees 1 2;"
            + "sees 2 1");
        C.due("two pairs by leaving the least", star.married(-1), 2);
        C.due("0 gives way", star.married(0), 3);
        C.due("1 has the other", star.married(1), 2);
        BackVillage alone = Check.of("person 1;person 0;sees 0 1");
        C.due("no pair", alone.married(-1), 0);
        C.due("with nobody", alone.married(0), -1);
        alone.read(0);
        C.due("known by reading out", alone.married(1), 0);
        BackVillage read = Check.of("person 1;person 0;person 1;person 0");
        for (int p = 0; p < 4; p++) {
            read.read(p);
        }
        C.due("all know all", read.married(2), 3);
        C.due("all know all, pairs", read.married(-1), 2);
        C.due("of nobody", new BackVillage().married(-1), 0);
        C.dueThrow("no such person", () -> v.married(4), BOUNDS);
        C.dueThrow("below none", () -> v.married(-2), BOUNDS);
    }
}
