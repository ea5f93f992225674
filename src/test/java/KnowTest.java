/** Promises 20 to 24, 30, 31, 36 to 38, 43, 44: what one knows, all know, and would know. */
public final class KnowTest {
    private static final Check C = new Check("KnowTest");
    private static final Class<IndexOutOfBoundsException> BOUNDS = IndexOutOfBoundsException.class;
    private static final String MUDDY = "person 1;person 1;person 0;sees 0 1;sees 0 2;sees 1 0;sees 1 2;sees 2 0;"
        + "sees 2 1;least 1 have 1";

    public static void main(String[] args) {
        possible();
        knows();
        thinks();
        common();
        muddy();
        spill();
        nth();
        guess();
        right();
        widest();
        under();
        nothingChanges();
        C.finish();
    }

    private static void possible() {
        BackVillage v = Check.of("values 3;person 2;person 0;sees 0 1");
        C.due("of a seen one", v.possible(0, 1), 1);
        C.due("of oneself", v.possible(0, 0), 7);
        C.due("of one not seen", v.possible(1, 0), 7);
        v.query(0, 1, 2);
        C.due("of one that is not 2", v.possible(1, 1), 3);
        C.dueThrow("no such person", () -> v.possible(2, 0), BOUNDS);
        C.dueThrow("no such whose", () -> v.possible(0, 2), BOUNDS);
        C.dueThrow("below", () -> v.possible(-1, -1), BOUNDS);
    }

    private static void knows() {
        BackVillage v = Check.of("values 4;person 3;person 2;sees 0 1");
        C.due("a seen one's", v.knows(0, 1), 2);
        C.due("one's own", v.knows(0, 0), -1);
        C.due("not a seen one's", v.knows(1, 0), -1);
        v.read(0);
        C.due("told before all", v.knows(1, 0), 3);
        C.due("one's own, told before all", v.knows(0, 0), 3);
        BackVillage u = Check.of("person 1;person 0;sees 0 1;unlike 0 1");
        C.due("led from another one's", u.knows(0, 0), 1);
        C.due("a 0 that one knows", u.knows(0, 1), 0);
        C.dueThrow("no such person", () -> v.knows(2, 0), BOUNDS);
        C.dueThrow("no such whose", () -> v.knows(0, 2), BOUNDS);
        C.dueThrow("below", () -> v.knows(0, -1), BOUNDS);
    }

    private static void thinks() {
        BackVillage v = Check.of("person 1;person 0;person 1;sees 0 1;sees 1 2");
        C.due("a seer of itself", v.thinks(0, 0, 1), true);
        C.due("all know who sees whom", v.thinks(2, 0, 1), true);
        C.due("who sees nobody", v.thinks(0, 2, 1), false);
        C.due("of one's own", v.thinks(1, 0, 0), false);
        v.turn(0, 0);
        C.due("of one's own, seen", v.thinks(1, 0, 0), true);
        BackVillage m = Check.of("person 1;person 0;sees 0 1;sees 1 0;least 1 have 1");
        C.due("0 is sure, and 1 is not", m.count(8), 1);
        C.due("1 cannot know that 0 is sure", m.thinks(1, 0, 0), false);
        C.due("0 knows that 0 is sure", m.thinks(0, 0, 0), true);
        C.due("0 knows that 1 is not sure", m.thinks(0, 1, 1), false);
        m.ask(0);
        C.due("behind asking", m.thinks(1, 0, 0), true);
        C.due("and the other one", m.thinks(0, 1, 1), true);
        C.dueThrow("no such person", () -> v.thinks(3, 0, 0), BOUNDS);
        BackVillage few = Check.of("person 1;person 0;sees 0 1;sees 1 0;most 1 have 1");
        C.due("1 knows its own by 0's", few.knows(1, 1), 0);
        C.due("but 0 holds 00, where 1 does not", few.thinks(0, 1, 1), false);
        C.dueThrow("no such other one", () -> v.thinks(0, 3, 0), BOUNDS);
        C.dueThrow("no such whose", () -> v.thinks(0, 0, 3), BOUNDS);
    }

    private static void common() {
        BackVillage v = Check.of("person 1;person 1;person 0;sees 0 2;sees 1 2");
        C.due("a 0 that two see", v.common(2), -1);
        v.turn(2, 2);
        C.due("a 0 that all see", v.common(2), 0);
        C.due("a 1 that nobody sees", v.common(0), -1);
        BackVillage m = Check.of("person 1;person 1;person 1;sees 0 1;sees 0 2;sees 1 0;sees 1 2;sees 2 0;sees 2 1");
        m.turn(0, 0);
        m.turn(1, 1);
        C.due("2 does not know it", m.common(2), -1);
        C.due("all see 0", m.common(0), 1);
        m.turn(2, 2);
        C.due("all see 2", m.common(2), 1);
        BackVillage chain = Check.of("person 1;person 1;sees 0 1;sees 1 0;least 1 have 1");
        // 0 and 1 know the other's 1, but by 11 - 01 and 11 - 10 it is not known in common
        C.due("0 knows of 1", chain.knows(0, 1), 1);
        C.due("1 knows that 0 does", chain.thinks(1, 0, 1), true);
        C.due("not in common", chain.common(1), -1);
        chain.day();
        C.due("in common behind a day", chain.common(1), 1);
        BackVillage told = Check.of("person 0;person 1;most 1 have 1;unlike 0 1;least 1 have 0");
        C.due("by nobody's sight", told.common(0), -1);
        told.read(1);
        C.due("by the other one", told.common(0), 0);
        // 01, to 00 by 1, and only from there to 10 by 0
        C.due("three steps", Check.of("person 0;person 1;sees 1 0;sees 0 1;most 1 have 1").common(0), -1);
        C.dueThrow("no such person", () -> v.common(3), BOUNDS);
        C.dueThrow("below", () -> v.common(-1), BOUNDS);
    }

    private static void muddy() {
        BackVillage v = Check.of(MUDDY);
        C.due("somebody", v.muddy(-1), 1);
        C.due("a muddy one", v.muddy(0), 1);
        C.due("the clean one", v.muddy(2), 2);
        C.due("no day has been", v.count(4), 0);
        v.day();
        C.due("the clean one, a day on", v.muddy(2), 1);
        C.due("a muddy one, a day on", v.muddy(0), 0);
        BackVillage blind = Check.of("person 1;person 1");
        C.due("never", blind.muddy(0), -1);
        C.due("never anybody", blind.muddy(-1), -1);
        blind.turn(0, 0);
        C.due("now", blind.muddy(-1), 0);
        C.due("the other one never", blind.muddy(1), -1);
        C.due("nobody of nobody", new BackVillage().muddy(-1), -1);
        C.dueThrow("no such person", () -> blind.muddy(2), BOUNDS);
        C.dueThrow("below none", () -> blind.muddy(-2), BOUNDS);
        StringBuilder t = new StringBuilder();
        BackVillage many = Check.of("person 1;".repeat(8) + "person 1");
        for (int p = 0; p < 9; p++) {
            for (int q = 0; q < 9; q++) {
                t.append(p == q ? "" : "sees " + p + " " + q + ";");
            }
            t.setLength(t.length() - 1);
            Check.tell(many, t.toString());
            t.setLength(0);
        }
        Check.tell(many, "least 1 have 1");
        C.due("9 muddy ones", many.muddy(-1), 8);
        C.due("the last of them", many.muddy(8), 8);
    }

    private static void spill() {
        BackVillage v = Check.of("person 1;person 0;person 0;sees 0 1;sees 1 0;unlike 0 1");
        C.due("0 and 1 are sure", v.count(8), 3);
        C.due("by 0 nobody more", v.spill(0), 0);
        C.due("by 2 itself", v.spill(2), 4);
        C.due("quiet", v.quiet(), 3);
        BackVillage w = Check.of("person 1;person 0;unlike 0 1");
        C.due("by 0 both", w.spill(0), 3);
        C.due("by 1 both", w.spill(1), 3);
        C.due("nobody is quiet", w.quiet(), 0);
        w.turn(0, 0);
        C.due("by 0 the other one alone", w.spill(0), 2);
        C.due("of nobody", new BackVillage().quiet(), 0);
        C.dueThrow("no such person", () -> w.spill(2), BOUNDS);
        C.dueThrow("below", () -> w.spill(-1), BOUNDS);
    }

    private static void nth() {
        BackVillage v = Check.of("person 1;person 0;person 1;sees 0 1;least 2 have 1");
        int[] left = {3, 5, 6, 7, -1};
        for (int k = 0; k < 5; k++) {
            C.due("left no. " + k, v.nth(-1, k), left[k]);
        }
        C.due("held no. 0", v.nth(0, 0), 5);
        C.due("held no. 1", v.nth(0, 1), -1);
        C.due("held by 1, no. 3", v.nth(1, 3), 7);
        C.due("held by 1, no. 4", v.nth(1, 4), -1);
        C.due("no. -1", v.nth(-1, -1), -1);
        C.due("no. -1 of one", v.nth(0, -1), -1);
        C.due("of nobody", new BackVillage().nth(-1, 0), 0);
        C.dueThrow("no such person", () -> v.nth(3, 0), BOUNDS);
        C.dueThrow("below none", () -> v.nth(-2, 0), BOUNDS);
    }

    private static void guess() {
        BackVillage v = Check.of("person 0;person 1;person 1;least 2 have 1");
        // 011 101 110 111: 0 has 1 in three of four
        C.due("most worlds", v.guess(0), 1);
        v.turn(0, 1);
        v.turn(0, 2);
        // 0 sees both: 011 and 111
        C.due("of several the least", v.guess(0), 0);
        C.due("another one's", v.guess(1), 1);
        v.turn(0, 0);
        C.due("who is sure", v.guess(0), 0);
        BackVillage w = Check.of("values 4;person 2;person 3;least 1 have 3");
        C.due("3 in four of seven", w.guess(0), 3);
        C.due("3 in four of seven, of 1", w.guess(1), 3);
        w.turn(1, 1);
        w.turn(0, 1);
        C.due("all alike by seeing a 3", w.guess(0), 0);
        C.dueThrow("no such person", () -> w.guess(2), BOUNDS);
        C.dueThrow("none", () -> w.guess(-1), BOUNDS);
    }

    private static void right() {
        BackVillage v = Check.of("person 0;person 1;person 1;least 2 have 1");
        C.due("0 guesses 1", v.right(0), 3);
        C.due("all guess 1", v.right(-1), 1);
        v.turn(0, 1);
        // by 1's notice: 011 110 111 (0 has 1 in two), 101 (1 alone)
        C.due("0, by what 0 sees", v.right(0), 3);
        v.turn(0, 2);
        // 011 and 111: 0; 110: 1; 101: 1
        C.due("0, by both", v.right(0), 3);
        C.due("of 1", v.right(1), 3);
        // 0 is right in 011 110 101, 1 in 011 110 111, 2 in 011 101 111
        C.due("all are right", v.right(-1), 1);
        C.due("of nobody", new BackVillage().right(-1), 1);
        C.dueThrow("no such person", () -> v.right(3), BOUNDS);
        C.dueThrow("below none", () -> v.right(-2), BOUNDS);
    }

    private static void widest() {
        BackVillage v = Check.of("person 0;person 1;person 1;sees 0 1;sees 2 0;sees 2 1");
        C.due("who sees nobody", v.widest(), 1);
        v.turn(1, 2);
        C.due("of several the least", v.widest(), 0);
        C.due("of nobody", new BackVillage().widest(), -1);
        BackVillage one = Check.of("person 1;least 1 have 1");
        C.due("who holds one world", one.widest(), 0);
    }

    private static void under() {
        BackVillage v = Check.of("person 0;person 1;person 1;sees 0 1;sees 2 0;sees 2 1");
        C.due("who sees most", v.under(), 2);
        v.turn(0, 2);
        C.due("of several the least", v.under(), 0);
        v.turn(1, 1);
        v.turn(1, 0);
        v.turn(2, 2);
        C.due("one's own count, too", v.under(), 2);
        C.due("of nobody", new BackVillage().under(), -1);
    }

    private static void nothingChanges() {
        BackVillage v = Check.of(MUDDY);
        Check.rule(v, "act 1 if theirs > 0");
        v.muddy(2);
        v.never(0);
        v.gives(0);
        v.question(0);
        v.queries(0);
        v.spill(0);
        v.quiet();
        v.trial(30);
        v.span(30, true);
        v.game(0, true);
        v.backs(0);
        C.due("worlds left", v.count(6), 7);
        C.due("day", v.count(4), 0);
        C.due("who is sure", v.count(8), 0);
        C.due("rows", v.count(9), 0);
        C.due("acts", v.count(10), 0);
        C.due("holds", v.person(0, 4), 2);
        C.due("seed", v.seed(1), 1);
    }
}
