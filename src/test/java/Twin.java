/** Tells whether two objects, made alike, still answer alike behind something was done to one of them. */
final class Twin {
    /** Makes an object anew, so that each look stays far below the 512 calls of an object. */
    interface Recipe {
        BackVillage make();
    }

    interface Deed {
        void on(BackVillage v);
    }

    private static final int REFUSED = -9;

    private Twin() {
    }

    /** Four people who learned this and that, with two texts, a law, an image, a fault and a law on the tape. */
    static BackVillage rich() {
        BackVillage v = Check.of("person 1;person 0;person 1;person 1;sees 0 1;sees 1 0;sees 1 2;sees 2 0;sees 3 1;"
            + "least 1 have 1");
        Check.rule(v, "act 1 if theirs > 0;act 2 if sure and day < 2");
        v.day();
        v.image();
        Check.tell(v, "most 3 have 1");
        v.seed(5);
        v.stroll(2);
        v.treat(2, 0, false);
        v.query(1, 0, 1);
        v.seed(77);
        refuse(() -> Check.rule(v, "act 1 if"));
        Check.tape(v, "act 7");
        return v;
    }

    /** Four people of whom more may be told. */
    static BackVillage open() {
        return Check.of("person 1;person 0;person 1;person 1");
    }

    /** Nothing at all may be unlike. */
    static void sameInAll(Check check, String what, Recipe recipe, Deed one, Deed other) {
        sameState(check, what, recipe, one, other);
        same(check, what + ": the tape", tape(made(recipe, one)), tape(made(recipe, other)));
        same(check, what + ": fault()", "" + made(recipe, one).fault(), "" + made(recipe, other).fault());
    }

    /** The tape and fault() may be unlike. */
    static void sameState(Check check, String what, Recipe recipe, Deed one, Deed other) {
        sameLooks(check, what, recipe, one, other);
        same(check, what + ": acts to undo", undos(made(recipe, one)), undos(made(recipe, other)));
        same(check, what + ": the image", image(made(recipe, one)), image(made(recipe, other)));
        same(check, what + ": what may be told", told(made(recipe, one)), told(made(recipe, other)));
    }

    /** What is so now is alike; the tape, fault(), the image and what can be undone may be unlike. */
    static void sameLooks(Check check, String what, Recipe recipe, Deed one, Deed other) {
        same(check, what, looks(made(recipe, one)), looks(made(recipe, other)));
    }

    private static BackVillage made(Recipe recipe, Deed deed) {
        BackVillage v = recipe.make();
        deed.on(v);
        return v;
    }

    private static void same(Check check, String what, String got, String want) {
        check.due(what + (got.equals(want) ? "" : "\n  " + got + "\n  " + want + "\n "), got.equals(want), true);
    }

    private static void refuse(Check.Call call) {
        try {
            call.run();
        } catch (RuntimeException e) {
            return;
        }
        throw new IllegalStateException("a call was not refused");
    }

    static String looks(BackVillage v) {
        StringBuilder t = new StringBuilder();
        int people = v.count(0);
        // what can be undone is looked at on its own
        for (int i = 0; i < 10; i++) {
            t.append(v.count(i)).append(' ');
        }
        for (int w = 0; w < v.count(5); w++) {
            t.append(v.left(w) ? 'y' : 'n');
        }
        for (int p = 0; p < people; p++) {
            t.append("; ").append(p);
            for (int what = 0; what < 6; what++) {
                t.append(' ').append(v.person(p, what));
            }
            t.append(' ').append(v.led(p)).append(' ').append(v.muddy(p)).append(' ').append(v.common(p));
            for (int q = 0; q < people; q++) {
                t.append(' ').append(v.possible(p, q)).append(v.thinks(p, q, q) ? 'y' : 'n').append(manner(v, p, q));
            }
        }
        for (int ago = 0; ago < v.count(9); ago++) {
            t.append("; row");
            for (int what = 0; what < 5; what++) {
                t.append(' ').append(v.log(ago, what));
            }
        }
        int seed = v.seed(1);
        v.seed(seed);
        return t.append("; seed ").append(seed).append(' ').append(v.trial(30)).toString();
    }

    private static int manner(BackVillage v, int who, int whom) {
        boolean may = who != whom && (v.person(who, 1) >> whom & 1) == 1;
        return may ? v.manner(who, whom, v.count(7)) : REFUSED;
    }

    private static String tape(BackVillage v) {
        StringBuilder t = new StringBuilder();
        int size = 400;
        while (!v.end(size)) {
            size--;
        }
        t.append(size);
        try {
            t.append(" law ").append(v.law());
        } catch (IllegalArgumentException e) {
            t.append(" no law");
        }
        return t.append(' ').append(v.count(3)).toString();
    }

    private static String undos(BackVillage v) {
        StringBuilder t = new StringBuilder();
        t.append(v.count(10));
        while (v.undo()) {
            t.append("; ").append(v.count(4)).append(' ').append(v.count(6)).append(' ').append(v.count(8)).append(' ')
                .append(v.count(9)).append(' ').append(v.seed(3)).append(' ').append(v.person(0, 1));
        }
        return t.toString();
    }

    private static String image(BackVillage v) {
        return v.back() ? looks(v) : "none";
    }

    private static String told(BackVillage v) {
        try {
            Check.tell(v, "person 1");
            return "a person";
        } catch (IllegalArgumentException e) {
            return "no person: " + v.fault();
        } catch (UnsupportedOperationException e) {
            return "no text";
        }
    }
}
