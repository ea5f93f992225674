/** Promises 7 to 19: people, worlds, manners, and what is done. */
public final class ActsTest {
    private static final Check C = new Check("ActsTest");
    private static final Class<IllegalArgumentException> ARGUMENT = IllegalArgumentException.class;
    private static final Class<IllegalStateException> STATE = IllegalStateException.class;
    private static final Class<IndexOutOfBoundsException> BOUNDS = IndexOutOfBoundsException.class;
    private static final String PAIR = "person 1;person 0;sees 0 1;sees 1 0";
    private static final String THREE = "person 1;person 0;person 0;sees 0 1;sees 1 0";
    private static final String MUDDY = "person 1;person 1;sees 0 1;sees 1 0;least 1 have 1";

    public static void main(String[] args) {
        person();
        left();
        apart();
        sure();
        manner();
        treat();
        treatBySure();
        treatByEightManners();
        turn();
        ask();
        day();
        read();
        claim();
        query();
        stroll();
        refused();
        C.finish();
    }

    private static void person() {
        BackVillage v = Check.of("values 3;person 2;person 0;person 1;sees 0 1;sees 0 2;sees 2 0");
        int[][] want = {{2, 6, 4, 0, 3, 6}, {0, 0, 1, 0, 27, 0}, {1, 1, 1, 0, 9, 1}};
        for (int p = 0; p < 3; p++) {
            for (int what = 0; what < 6; what++) {
                C.due("person " + p + ", " + what, v.person(p, what), want[p][what]);
            }
        }
        v.turn(0, 0);
        C.due("one's own back is seen", v.person(0, 1), 7);
        C.due("who sees one, oneself too", v.person(0, 2), 5);
        C.due("sure", v.person(0, 3), 1);
        C.due("holds one", v.person(0, 4), 1);
        C.due("knows all", v.person(0, 5), 7);
        C.dueThrow("person -1", () -> v.person(-1, 0), BOUNDS);
        C.dueThrow("person 3", () -> v.person(3, 9), BOUNDS);
        C.dueThrow("what 6", () -> v.person(0, 6), java.util.NoSuchElementException.class);
        C.dueThrow("what -1", () -> v.person(0, -1), java.util.NoSuchElementException.class);
    }

    private static void left() {
        BackVillage v = Check.of("person 1;person 0;least 1 have 1");
        int[] want = {0, 1, 1, 1};
        for (int w = 0; w < 4; w++) {
            C.due("left " + w, v.left(w), want[w] == 1);
        }
        C.dueThrow("left 4", () -> v.left(4), BOUNDS);
        C.dueThrow("left -1", () -> v.left(-1), BOUNDS);
    }

    private static void apart() {
        BackVillage v = Check.of("person 1;person 0;person 1;sees 0 1;most 2 have 1");
        C.due("by sight", v.apart(0, 5, 2), true);
        C.due("not by one's own", v.apart(0, 5, 1), false);
        C.due("one", v.apart(0, 5, 5), false);
        C.due("who sees nobody", v.apart(1, 0, 6), false);
        v.turn(1, 2);
        C.due("who turned", v.apart(1, 0, 1), true);
        C.due("who turned, of the same notice", v.apart(1, 0, 6), false);
        C.due("by whom 1 sees, not 0", v.apart(1, 0, 2), false);
        C.due("by whom 0 sees, not 1", v.apart(0, 0, 2), true);
        C.dueThrow("one is left no more", () -> v.apart(0, 7, 1), STATE);
        C.dueThrow("the other is left no more", () -> v.apart(0, 1, 7), STATE);
        C.dueThrow("both one that is left no more", () -> v.apart(0, 7, 7), STATE);
        C.dueThrow("no such world", () -> v.apart(0, 7, 8), BOUNDS);
        C.dueThrow("no such world, first", () -> v.apart(0, -1, 7), BOUNDS);
        C.dueThrow("no such person", () -> v.apart(3, 0, 1), BOUNDS);
    }

    private static void sure() {
        BackVillage v = Check.of(MUDDY);
        C.due("who sees a 0", v.sure(0, 2), true);
        C.due("who sees a 1", v.sure(0, 3), false);
        C.due("who sees a 1, elsewhere", v.sure(0, 1), false);
        C.due("the other one", v.sure(1, 1), true);
        C.dueThrow("left no more", () -> v.sure(0, 0), STATE);
        C.dueThrow("no such world", () -> v.sure(0, 4), BOUNDS);
        C.due("1 is not sure where 0 is", v.sure(1, 2), false);
        C.due("0 is not sure where 1 is", v.sure(0, 1), false);
        C.dueThrow("no such person", () -> v.sure(2, 0), BOUNDS);
        C.dueThrow("no such person, below", () -> v.sure(-1, 9), BOUNDS);
    }

    private static void manner() {
        BackVillage v = Check.of("person 1;person 1;sees 0 1;least 1 have 1");
        Check.rule(v, "act 10 if theirs > 0;act 1 if sure");
        C.due("in 11", v.manner(0, 1, 3), 10);
        C.due("in 10, where 0 is sure", v.manner(0, 1, 2), 1);
        C.due("in 01", v.manner(0, 1, 1), 10);
        C.dueThrow("left no more", () -> v.manner(0, 1, 0), STATE);
        C.dueThrow("not seen", () -> v.manner(1, 0, 3), STATE);
        C.dueThrow("oneself", () -> v.manner(1, 1, 0), ARGUMENT);
        C.dueThrow("oneself, no such world", () -> v.manner(1, 1, 4), BOUNDS);
        C.dueThrow("no such one", () -> v.manner(2, 1, 3), BOUNDS);
        C.dueThrow("no such one, below", () -> v.manner(-1, 1, 3), BOUNDS);
        C.dueThrow("no such person", () -> v.manner(2, 2, 0), BOUNDS);
        C.dueThrow("no such other one", () -> v.manner(0, -1, 0), BOUNDS);
        v.turn(1, 1);
        C.dueThrow("oneself, seen", () -> v.manner(1, 1, 3), ARGUMENT);
    }

    private static void treat() {
        BackVillage v = Check.of(THREE);
        Check.rule(v, "act 3 if theirs > 0;act 1");
        C.due("in private", v.treat(1, 0, false), 4);
        C.due("the other one learns", v.count(8), 1);
        C.due("a third one does not", v.possible(2, 0), 3);
        C.due("nothing is left no more", v.count(6), 8);
        C.due("holds of 0: sees 1, knows 0", v.person(0, 4), 2);
        C.due("before all", v.treat(1, 0, true), 4);
        C.due("a third one learns", v.possible(2, 0), 2);
        C.due("the treated 1", v.treat(0, 1, true), 1);
        C.due("everybody learns of 1", v.person(2, 5), 3);
        C.due("who is sure", v.count(8), 3);
        BackVillage same = Check.of(THREE);
        Check.rule(same, "act 5 if theirs < 1;act 5 if theirs > 0");
        C.due("the same manner in all worlds", same.treat(1, 0, true), 5);
        C.due("tells nothing", same.count(8), 0);
        BackVillage none = Check.of(THREE);
        C.due("without a law", none.treat(1, 0, true), 0);
        C.due("without a law one learns nothing", none.person(2, 4), 8);
        C.dueThrow("oneself", () -> v.treat(1, 1, false), ARGUMENT);
        C.dueThrow("not seen", () -> v.treat(2, 0, false), STATE);
        C.dueThrow("no such person", () -> v.treat(3, 3, false), BOUNDS);
        C.dueThrow("no such other one", () -> v.treat(0, 3, true), BOUNDS);
        C.dueThrow("no such one", () -> v.treat(3, 0, true), BOUNDS);
        C.dueThrow("no such one, below", () -> v.treat(-1, 0, true), BOUNDS);
        BackVillage later = Check.of(PAIR);
        Check.rule(later, "act 1 if theirs > 0");
        later.treat(1, 0, false);
        Check.rule(later, "");
        C.due("what came by an act stays under another law", later.count(8), 1);
        BackVillage values = Check.of("values 4;person 2;person 0;sees 1 0");
        Check.rule(values, "act 1 if theirs > 1");
        values.treat(1, 0, false);
        C.due("two notices by one manner", values.possible(0, 0), 12);
        Check.rule(values, "act 1 if theirs > 2");
        values.treat(1, 0, false);
        C.due("both manners together", values.possible(0, 0), 4);
    }

    private static void treatBySure() {
        // 0 would be sure in 10, so that how 0 treats tells 1 apart from it
        BackVillage v = Check.of(MUDDY);
        Check.rule(v, "act 1 if sure");
        C.due("0 is not sure", v.treat(0, 1, false), 0);
        C.due("1 knows that its own is a 1", v.knows(1, 1), 1);
        C.due("10 is left all the same", v.left(2), true);
        C.due("1 treats as one who is sure", v.treat(1, 0, false), 1);
        // 1 is sure in all worlds by then: 0 learns nothing
        C.due("0 does not know", v.knows(0, 0), -1);
        BackVillage w = Check.of(MUDDY);
        Check.rule(w, "act 1 if sure;act 1 if theirs < 1");
        // by 0: in 10 it is 2, in 11 and 01 it is 0
        C.due("manner in 10", w.manner(0, 1, 2), 2);
        C.due("before all", w.treat(0, 1, true), 0);
        C.due("0 learns nothing of oneself", w.count(8), 2);
    }

    /** 4 notices of another one, by a SURE one or not, are 8 manners, told apart beside what one sees. */
    private static void treatByEightManners() {
        BackVillage v = Check.of("values 4;person 0;person 2;person 1;sees 0 1;sees 1 2;sees 2 0");
        Check.rule(v, "act 1 if theirs > 2");
        C.due("0 learns whether it has a 3", v.treat(2, 0, false), 0);
        Check.rule(v, "act 1 if theirs > 0;act 1 if theirs > 1;act 1 if theirs > 2;act 4 if sure");
        C.due("2, not by a sure one", v.treat(0, 1, false), 2);
        for (int w = 0; w < 64; w++) {
            for (int x = 0; x < 64; x++) {
                boolean sight = w % 4 != x % 4;
                boolean manner = w / 4 % 4 != x / 4 % 4 || (w / 16 == 3) != (x / 16 == 3);
                C.due("apart for 1: " + w + " and " + x, v.apart(1, w, x), sight || manner);
            }
        }
        C.due("1 is sure now", v.count(8), 2);
        C.due("1 holds the worlds in which 0 has no 3", v.person(1, 4), 3);
    }

    private static void turn() {
        BackVillage v = Check.of("values 3;person 2;person 1");
        C.due("a back", v.turn(0, 1), 1);
        C.due("whom one sees", v.person(0, 1), 2);
        C.due("knows it", v.knows(0, 1), 1);
        C.due("in a pond", v.turn(0, 0), 2);
        C.due("sure", v.count(8), 1);
        C.due("once more", v.turn(0, 0), 2);
        C.due("1 knows that 0 knows", v.thinks(1, 0, 0), true);
        C.due("1 does not know", v.knows(1, 0), -1);
        C.due("an own back is no other one", v.gives(0), 0);
        C.dueThrow("no such person", () -> v.turn(2, 0), BOUNDS);
        C.dueThrow("no such other one", () -> v.turn(0, 2), BOUNDS);
        C.dueThrow("below", () -> v.turn(-1, 0), BOUNDS);
    }

    private static void ask() {
        BackVillage v = Check.of(MUDDY);
        C.due("0 is not sure", v.ask(0), false);
        C.due("10 is left no more", v.left(2), false);
        C.due("two are left", v.count(6), 2);
        C.due("1 is sure", v.ask(1), true);
        C.due("two are left still", v.count(6), 2);
        C.due("the day is the same", v.count(4), 0);
        BackVillage second = Check.of("person 1;person 0;sees 1 0");
        second.turn(1, 1);
        C.due("the second is sure", second.ask(1), true);
        C.due("the first is not", second.ask(0), false);
        C.dueThrow("no such person", () -> v.ask(2), BOUNDS);
        C.dueThrow("below", () -> v.ask(-1), BOUNDS);
    }

    private static void day() {
        BackVillage v = Check.of("person 1;person 1;person 0;sees 0 1;sees 0 2;sees 1 0;sees 1 2;sees 2 0;sees 2 1;"
            + "least 1 have 1");
        C.due("first day", v.day(), 0);
        C.due("left behind it", v.count(6), 4);
        C.due("day 1", v.count(4), 1);
        C.due("second day", v.day(), 3);
        C.due("left behind the second", v.count(6), 1);
        C.due("all are sure", v.count(8), 7);
        C.due("third day", v.day(), 7);
        C.due("day 3", v.count(4), 3);
        BackVillage none = new BackVillage();
        C.due("a day of nobody", none.day(), 0);
        C.due("is a day", none.count(4), 1);
        BackVillage law = Check.of(PAIR);
        Check.rule(law, "act 1 if day > 0 and theirs > 0");
        law.treat(1, 0, false);
        C.due("ahead of the day", law.count(8), 0);
        law.day();
        C.due("behind the day", law.treat(1, 0, false), 1);
        C.due("it gives away then", law.count(8), 1);
    }

    private static void read() {
        BackVillage v = Check.of("values 4;person 3;person 1");
        C.due("read out", v.read(0), 3);
        C.due("four are left", v.count(6), 4);
        C.due("0 is sure", v.count(8), 1);
        C.due("all know in common", v.common(0), 3);
        C.due("once more", v.read(0), 3);
        C.dueThrow("no such person", () -> v.read(2), BOUNDS);
        C.dueThrow("below", () -> v.read(-1), BOUNDS);
    }

    private static void claim() {
        BackVillage v = Check.of("person 1;person 1;person 0");
        C.due("one at least", v.claim(1, 1), 2);
        C.due("left", v.count(6), 7);
        C.due("two at least", v.claim(2, 1), 2);
        C.due("left behind two", v.count(6), 4);
        C.due("none at least", v.claim(0, 0), 1);
        C.due("left as before", v.count(6), 4);
        C.dueThrow("three", () -> v.claim(3, 1), STATE);
        C.dueThrow("ten", () -> v.claim(10, 1), ARGUMENT);
        C.dueThrow("below", () -> v.claim(-1, 1), ARGUMENT);
        C.dueThrow("no such notice", () -> v.claim(10, 2), BOUNDS);
        C.dueThrow("no such notice, below", () -> v.claim(0, -1), BOUNDS);
        C.due("nine", Check.of("person 1;".repeat(8) + "person 1").claim(9, 1), 9);
        C.due("a refused one is no act", v.count(10), 3);
        C.due("of nobody", new BackVillage().claim(0, 1), 0);
    }

    private static void query() {
        BackVillage v = Check.of("values 3;person 2;person 1;person 0;sees 0 1;sees 1 0");
        C.due("who does not know", v.query(2, 0, 0), 2);
        C.due("nothing is told by it", v.count(6), 27);
        C.due("one's own, not known", v.query(0, 0, 2), 2);
        C.due("who knows that not", v.query(0, 1, 2), 0);
        C.due("all but 2 of 1", v.count(6), 18);
        C.due("1 may be 0 or 1", v.possible(1, 1), 3);
        C.due("who knows that it is", v.query(0, 1, 1), 1);
        C.due("only 1 of 1", v.count(6), 9);
        C.due("one's own, known", v.query(1, 1, 1), 1);
        C.due("one's own, known not to be", v.query(1, 1, 0), 0);
        BackVillage w = Check.of("person 1;person 1;sees 0 1;sees 1 0;least 1 have 1");
        C.due("of worlds of another answer", w.query(0, 0, 1), 2);
        C.due("where 0 would know", w.left(2), false);
        C.dueThrow("no such person", () -> v.query(3, 0, 0), BOUNDS);
        C.dueThrow("no such whose", () -> v.query(0, 3, 0), BOUNDS);
        C.dueThrow("no such notice", () -> v.query(0, 0, 3), BOUNDS);
        C.dueThrow("no such notice, below", () -> v.query(0, 0, -1), BOUNDS);
    }

    private static void stroll() {
        BackVillage v = Check.of("person 1;person 0;person 1;sees 0 1;sees 1 2;sees 2 0;sees 2 1");
        Check.rule(v, "act 1 if theirs > 0;act 2");
        int seed = 1;
        int treated = 0;
        int latestWho = -1;
        int latestWhom = -1;
        int[] sights = {2, 4, 3};
        for (int i = 0; i < 30; i++) {
            seed = 1103515245 * seed + 12345;
            int who = (seed >>> 16 & 32767) % 3;
            seed = 1103515245 * seed + 12345;
            int whom = (seed >>> 16 & 32767) % 3;
            if (who != whom && (sights[who] >> whom & 1) == 1) {
                treated++;
                latestWho = who;
                latestWhom = whom;
            }
        }
        C.due("the trial of it", v.trial(30), 7);
        C.due("a stroll by 30", v.stroll(30), treated);
        C.due("rows of it", v.count(9), treated);
        C.due("one act", v.count(10), 1);
        C.due("kind of the latest", v.log(0, 0), 0);
        C.due("who of the latest", v.log(0, 1), latestWho);
        C.due("whom of the latest", v.log(0, 2), latestWhom);
        C.due("what came of the latest", v.log(0, 3), latestWhom == 1 ? 2 : 3);
        C.due("all were treated", v.count(8), 7);
        C.due("seed behind it", v.seed(0), seed);
        C.due("undone", v.undo(), true);
        C.due("seed ahead of it", v.seed(1), 1);
        C.due("rows ahead of it", v.count(9), 0);
        C.due("nobody is sure", v.count(8), 0);
        BackVillage none = new BackVillage();
        C.due("without people", none.stroll(30), 0);
        C.due("nothing is drawn", none.seed(1), 1);
        C.due("an act all the same", none.count(10), 1);
        BackVillage alone = Check.of("person 0");
        C.due("of one person", alone.stroll(1), 0);
        C.due("both are drawn", alone.seed(1), 1103515245 * (1103515245 + 12345) + 12345);
        BackVillage pond = Check.of("person 1");
        pond.turn(0, 0);
        C.due("nobody treats oneself", pond.stroll(30), 0);
        C.dueThrow("by 0", () -> v.stroll(0), ARGUMENT);
        C.dueThrow("by 31", () -> v.stroll(31), ARGUMENT);
        C.dueThrow("by -1", () -> v.stroll(-1), ARGUMENT);
    }

    /** Calls that throw leave all as it was: nothing to undo, nothing in the log, values and person open. */
    private static void refused() {
        BackVillage v = Check.of("person 1;person 0");
        C.dueThrow("treat", () -> v.treat(0, 1, true), STATE);
        C.dueThrow("turn", () -> v.turn(0, 5), BOUNDS);
        C.dueThrow("ask", () -> v.ask(5), BOUNDS);
        C.dueThrow("read", () -> v.read(5), BOUNDS);
        C.dueThrow("claim", () -> v.claim(2, 0), STATE);
        C.dueThrow("query", () -> v.query(0, 0, 5), BOUNDS);
        C.dueThrow("stroll", () -> v.stroll(0), ARGUMENT);
        C.due("acts", v.count(10), 0);
        C.due("rows", v.count(9), 0);
        C.due("seed", v.seed(1), 1);
        C.due("open for one person more", Check.tell(v, "person 1"), 2);
    }
}
