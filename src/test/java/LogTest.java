/** Promises 42 and 45 to 50: the log, what one's certainty is led to, the seed, acts undone, the image, counts. */
public final class LogTest {
    private static final Check C = new Check("LogTest");
    private static final String MUDDY = "person 1;person 1;sees 0 1;sees 1 0;least 1 have 1";

    public static void main(String[] args) {
        logRows();
        logLength();
        led();
        ledLength();
        seed();
        undo();
        undoMany();
        undoForgotten();
        image();
        imageOfRows();
        imageOfNobody();
        undoEach();
        imageForgets();
        count();
        C.finish();
    }

    private static void row(BackVillage v, int ago, int kind, int who, int whom, int came, int sure) {
        int[] want = {kind, who, whom, came, sure};
        for (int what = 0; what < 5; what++) {
            C.due("row " + ago + " ago, " + what, v.log(ago, what), want[what]);
        }
    }

    private static void logRows() {
        BackVillage v = Check.of("values 3;person 2;person 1;person 2;sees 0 1;sees 1 0;sees 2 0");
        Check.rule(v, "act 7 if theirs > 1");
        C.due("no row", v.log(0, 4), -1);
        v.treat(0, 1, true);
        row(v, 0, 1, 0, 1, 0, 0);
        v.treat(1, 0, false);
        row(v, 0, 0, 1, 0, 7, 1);
        v.turn(2, 1);
        row(v, 0, 2, 2, 1, 1, 1);
        v.ask(2);
        row(v, 0, 3, 2, -1, 0, 1);
        v.ask(0);
        row(v, 0, 3, 0, -1, 1, 1);
        v.day();
        row(v, 0, 4, -1, -1, 1, 1);
        v.read(1);
        row(v, 0, 5, 1, -1, 1, 3);
        v.claim(1, 2);
        row(v, 0, 6, 2, -1, 1, 3);
        v.query(1, 0, 0);
        row(v, 0, 7, 1, 0, 0, 3);
        v.query(1, 2, 2);
        row(v, 0, 7, 1, 2, 2, 3);
        row(v, 1, 7, 1, 0, 0, 3);
        row(v, 9, 1, 0, 1, 0, 0);
        C.due("rows", v.count(9), 10);
        C.due("one too many ago", v.log(10, 0), -1);
        C.due("ago below", v.log(-1, 0), -1);
        C.dueThrow("what 5", () -> v.log(0, 5), java.util.NoSuchElementException.class);
        C.dueThrow("what -1, of no row", () -> v.log(99, -1), java.util.NoSuchElementException.class);
        BackVillage s = Check.of(MUDDY);
        Check.rule(s, "act 1 if theirs > 0");
        s.seed(7);
        int treated = s.stroll(30);
        C.due("a row for each treated", s.count(9), treated);
        C.due("some were treated", treated > 2, true);
        int first = s.log(treated - 1, 2);
        row(s, treated - 1, 0, 1 - first, first, 1, 1 << first);
    }

    private static void logLength() {
        BackVillage v = Check.of("person 1;person 0");
        v.turn(0, 1);
        for (int i = 1; i <= 59; i++) {
            v.ask(i % 2);
        }
        C.due("60 rows", v.count(9), 60);
        row(v, 59, 2, 0, 1, 0, 0);
        row(v, 0, 3, 1, -1, 0, 0);
        v.day();
        C.due("60 rows at most", v.count(9), 60);
        row(v, 0, 4, -1, -1, 0, 0);
        row(v, 59, 3, 1, -1, 0, 0);
        C.due("the oldest is away", v.log(60, 0), -1);
        v.undo();
        C.due("60 rows behind undoing", v.count(9), 60);
        row(v, 59, 2, 0, 1, 0, 0);
    }

    private static void led() {
        BackVillage v = Check.of(MUDDY);
        C.due("an empty log", v.led(0), -1);
        v.turn(0, 1);
        C.due("not sure", v.led(0), -1);
        v.day();
        C.due("by the latest", v.led(0), 0);
        v.day();
        v.ask(1);
        C.due("by the day, two ago", v.led(0), 2);
        C.due("the other one", v.led(1), 2);
        BackVillage w = Check.of("person 1;person 0");
        w.read(0);
        w.read(1);
        C.due("0 by the first", w.led(0), 1);
        C.due("1 by the second", w.led(1), 0);
        w.undo();
        C.due("1 as it was", w.led(1), -1);
        BackVillage from = Check.of("person 1;person 0;unlike 0 1;sees 0 1");
        C.due("sure ahead of all acts", from.count(8), 1);
        C.due("but the log is empty", from.led(0), -1);
        from.day();
        from.day();
        C.due("sure from the first row on", from.led(0), 1);
        C.due("1 learns nothing by what all expected", from.led(1), -1);
        C.dueThrow("no such person", () -> v.led(2), IndexOutOfBoundsException.class);
        C.dueThrow("below", () -> v.led(-1), IndexOutOfBoundsException.class);
    }

    private static void ledLength() {
        BackVillage v = Check.of("person 1;person 0");
        v.turn(0, 0);
        for (int i = 0; i < 70; i++) {
            v.day();
        }
        C.due("by the oldest that is there", v.led(0), 59);
    }

    private static void seed() {
        BackVillage v = new BackVillage();
        C.due("at first", v.seed(-5), 1);
        C.due("any number", v.seed(Integer.MIN_VALUE), -5);
        C.due("the least", v.seed(0), Integer.MIN_VALUE);
        C.due("no act", v.count(10), 0);
        C.due("it closes nothing", Check.tell(v, "values 3;person 2"), 1);
    }

    private static void undo() {
        BackVillage v = Check.of(MUDDY);
        Check.rule(v, "act 1 if theirs > 0");
        C.due("nothing to undo", v.undo(), false);
        v.treat(0, 1, false);
        v.day();
        v.turn(0, 0);
        v.seed(9);
        C.due("three acts", v.count(10), 3);
        C.due("a turn undone", v.undo(), true);
        C.due("seed as ahead of it", v.seed(1), 1);
        C.due("whom one sees as ahead of it", v.person(0, 1), 2);
        C.due("rows", v.count(9), 2);
        C.due("0 is not sure any more", v.count(8), 2);
        Check.tape(v, "abc");
        C.due("a day undone", v.undo(), true);
        C.due("day", v.count(4), 0);
        C.due("worlds left", v.count(6), 3);
        C.due("1 is sure", v.count(8), 2);
        C.due("the tape is as it was", v.end(3), true);
        C.due("a treat undone", v.undo(), true);
        C.due("nobody is sure", v.count(8), 0);
        C.due("the log is empty", v.count(9), 0);
        C.due("no more", v.undo(), false);
        C.due("none of them", v.count(10), 0);
        v.read(0);
        C.due("an act behind", v.count(10), 1);
        C.due("is undone", v.undo(), true);
        C.due("as ahead of it", v.count(6), 3);
    }

    private static void undoMany() {
        BackVillage v = Check.of("person 1;person 0");
        for (int i = 1; i <= 11; i++) {
            v.day();
            C.due("remembered behind " + i, v.count(10), Math.min(8, i));
        }
        for (int i = 1; i <= 8; i++) {
            C.due("undone no. " + i, v.undo(), true);
            C.due("day behind it", v.count(4), 11 - i);
        }
        C.due("8 are remembered", v.undo(), false);
        C.due("day 3 stays", v.count(4), 3);
        for (int i = 1; i <= 5; i++) {
            v.day();
        }
        v.undo();
        v.ask(0);
        C.due("of both kinds", v.count(10), 5);
        v.undo();
        v.undo();
        C.due("day in between", v.count(4), 6);
    }

    private static void undoForgotten() {
        BackVillage v = Check.of("person 1;person 0");
        v.day();
        C.dueThrow("a wrong text", () -> Check.tell(v, "x"), IllegalArgumentException.class);
        C.dueThrow("a wrong law", () -> Check.rule(v, "x"), IllegalArgumentException.class);
        C.due("behind wrong texts", v.count(10), 1);
        Check.tell(v, "");
        C.due("behind a text", v.count(10), 0);
        C.due("nothing to undo", v.undo(), false);
        v.day();
        Check.rule(v, "");
        C.due("behind a law", v.count(10), 0);
        C.due("the day stays", v.count(4), 2);
        v.day();
        v.back();
        C.due("behind going back to none", v.count(10), 1);
        v.image();
        C.due("behind an image", v.count(10), 1);
        C.due("can be undone", v.undo(), true);
        for (int i = v.count(2); i < 12; i++) {
            Check.tell(v, "");
        }
        v.day();
        C.dueThrow("a refused text", () -> Check.tell(v, ""), UnsupportedOperationException.class);
        C.due("behind a refused text", v.count(10), 1);
    }

    private static void image() {
        BackVillage v = Check.of(MUDDY);
        Check.rule(v, "act 1 if theirs > 0;act 2");
        v.treat(0, 1, false);
        v.seed(5);
        v.image();
        v.day();
        v.read(0);
        v.seed(6);
        Check.rule(v, "act 3");
        Check.tell(v, "alike 0 1");
        Check.tape(v, "xy");
        C.due("back", v.back(), true);
        C.due("seed", v.seed(5), 5);
        C.due("day", v.count(4), 0);
        C.due("texts", v.count(2), 1);
        C.due("lines", v.count(3), 2);
        C.due("worlds left", v.count(6), 3);
        C.due("who is sure", v.count(8), 2);
        C.due("rows", v.count(9), 1);
        C.due("acts", v.count(10), 0);
        C.due("nothing to undo", v.undo(), false);
        C.due("manner", v.manner(0, 1, 3), 3);
        C.due("the tape is not gone back to", v.end(3), false);
        C.due("the tape is as it was", v.end(2), true);
        v.day();
        C.due("back once more", v.back(), true);
        C.due("day once more", v.count(4), 0);
        v.day();
        v.image();
        v.day();
        v.back();
        C.due("one image: the latest", v.count(4), 1);
        BackVillage early = new BackVillage();
        early.image();
        Check.tell(early, "values 3;person 1");
        early.turn(0, 0);
        C.due("back to nobody", early.back(), true);
        C.due("nobody", early.count(0), 0);
        C.due("two notices", early.count(1), 2);
        C.due("one world", early.count(5), 1);
        C.due("no text", early.count(2), 0);
        Check.tell(early, "person 1;person 1");
        C.due("two anew, who see nobody", early.person(0, 1), 0);
        C.due("four worlds left", early.count(6), 4);
        C.due("who know nothing", early.person(1, 4), 4);
    }

    /** All rows come back, also if they were written over since. */
    private static void imageOfRows() {
        BackVillage v = Check.of("person 1;person 0;sees 0 1");
        for (int i = 0; i < 60; i++) {
            v.query(i % 2, i / 2 % 2, i / 4 % 2);
        }
        int[] came = new int[60];
        for (int i = 0; i < 60; i++) {
            came[i] = v.log(i, 1) * 100 + v.log(i, 2) * 10 + v.log(i, 3);
        }
        v.image();
        for (int i = 0; i < 60; i++) {
            v.day();
        }
        v.back();
        for (int i = 0; i < 60; i++) {
            C.due("row " + i + " of the image", v.log(i, 0), 7);
            C.due("what it tells", v.log(i, 1) * 100 + v.log(i, 2) * 10 + v.log(i, 3), came[i]);
        }
    }

    /** What was told behind an image of nobody leaves nothing to those who come behind going back. */
    private static void imageOfNobody() {
        BackVillage v = new BackVillage();
        v.image();
        for (int i = 0; i < 3; i++) {
            Check.tell(v, "person 1;person 0;sees 0 1;sees 1 0");
            v.turn(0, 0);
            v.turn(1, 1);
            v.back();
            Check.tell(v, "");
            Check.tell(v, "person 0;person 1");
            C.due("0 sees nobody", v.person(0, 1), 0);
            C.due("1 sees nobody", v.person(1, 1), 0);
            C.due("0 holds all", v.person(0, 4), 4);
            C.due("1 holds all", v.person(1, 4), 4);
            C.due("no rows", v.count(9), 0);
            v.back();
        }
    }

    /** Each kind of act is one that can be undone. */
    private static void undoEach() {
        BackVillage v = Check.of("person 1;person 0;sees 0 1;sees 1 0");
        Check.rule(v, "act 1 if theirs > 0");
        v.treat(1, 0, true);
        each(v, "treat");
        v.turn(0, 0);
        each(v, "turn");
        v.ask(0);
        each(v, "ask");
        v.day();
        each(v, "day");
        v.read(1);
        each(v, "read");
        v.claim(1, 1);
        each(v, "claim");
        v.query(0, 1, 0);
        each(v, "query");
        v.stroll(30);
        each(v, "stroll");
    }

    private static void each(BackVillage v, String what) {
        C.due("one act: " + what, v.count(10), 1);
        C.due("undone: " + what, v.undo(), true);
        C.due("worlds left ahead of " + what, v.count(6), 4);
        C.due("nobody is sure ahead of " + what, v.count(8), 0);
        C.due("no row ahead of " + what, v.count(9), 0);
        C.due("no day ahead of " + what, v.count(4), 0);
        C.due("whom 0 sees ahead of " + what, v.person(0, 1), 2);
        C.due("the seed ahead of " + what, v.seed(1), 1);
    }

    private static void imageForgets() {
        BackVillage v = Check.of("person 1;person 0");
        C.due("none kept", v.back(), false);
        v.day();
        v.image();
        v.undo();
        C.due("behind undoing", v.count(4), 0);
        v.back();
        C.due("the image knows the day", v.count(4), 1);
        C.due("but not the act", v.count(10), 0);
        v.day();
        v.day();
        v.back();
        C.due("acts behind the image are forgotten", v.count(10), 0);
        C.due("nothing to undo", v.undo(), false);
        C.due("as in the image", v.count(4), 1);
    }

    private static void count() {
        BackVillage v = Check.of("values 3;person 2;person 0;sees 0 1");
        Check.rule(v, "act 1;act 2");
        v.read(1);
        int[] want = {2, 3, 1, 2, 0, 9, 3, 6, 2, 1, 1};
        for (int i = 0; i < want.length; i++) {
            C.due("count " + i, v.count(i), want[i]);
        }
        v.day();
        C.due("day", v.count(4), 1);
        C.due("count 11", v.count(11), -1);
        C.due("count -1", v.count(-1), -1);
    }
}
