import java.util.NoSuchElementException;

/**
 * What the document says of boundary cases of people, worlds, ACTS, THE LOG, what is UNDONE and THE IMAGE (promises 7
 * to 19 and 42 to 50): a test for each such sentence, which tells the sentence ahead of its case.
 */
public final class EdgeActTest {
    private static final Check C = new Check("EdgeActTest");
    private static final Class<IllegalArgumentException> ARGUMENT = IllegalArgumentException.class;
    private static final Class<IllegalStateException> STATE = IllegalStateException.class;
    private static final Class<IndexOutOfBoundsException> BOUNDS = IndexOutOfBoundsException.class;
    private static final Class<NoSuchElementException> ELEMENT = NoSuchElementException.class;
    private static final int[] FAR = {-2, -3, 10, 512, Integer.MAX_VALUE, Integer.MIN_VALUE};
    private static final String PAIR = "person 1;person 0;sees 0 1;sees 1 0";
    private static final String MUDDY = "person 1;person 1;sees 0 1;sees 1 0;least 1 have 1";
    private static final String[] ACTS = {"treat in private", "treat before all", "turn", "ask", "day", "read", "claim",
        "query", "stroll"};

    public static void main(String[] args) {
        personBounds();
        holdsThatOneToo();
        leftBounds();
        apartBounds();
        sureBounds();
        mannerBounds();
        treatBounds();
        treatLearners();
        treatByThen();
        turnBounds();
        askBounds();
        dayBounds();
        readBounds();
        claimBounds();
        queryBounds();
        strollBounds();
        draws();
        drawsGoRound();
        logBounds();
        logLatest();
        logOfStroll();
        ledBounds();
        ledBehindTexts();
        seedBounds();
        undoneAsAhead();
        undoneEight();
        undoneButFor();
        noneRemembered();
        imageOfAll();
        imageButFor();
        countBounds();
        refusedCalls();
        firstException();
        calls512();
        C.finish();
    }

    private static void act(BackVillage v, int which) {
        switch (which) {
            case 0:
                v.treat(1, 0, false);
                break;
            case 1:
                v.treat(1, 0, true);
                break;
            case 2:
                v.turn(0, 0);
                break;
            case 3:
                v.ask(1);
                break;
            case 4:
                v.day();
                break;
            case 5:
                v.read(0);
                break;
            case 6:
                v.claim(1, 1);
                break;
            case 7:
                v.query(0, 1, 1);
                break;
            default:
                v.stroll(30);
        }
    }

    // ---- people and worlds

    private static void personBounds() {
        BackVillage v = Check.of(PAIR);
        C.due("the last PERSON", v.person(1, 0), 0);
        C.dueThrow("no such PERSON: as many as there are", () -> v.person(2, 0), BOUNDS);
        C.dueThrow("no such PERSON: NONE", () -> v.person(-1, 0), BOUNDS);
        for (int far : FAR) {
            C.dueThrow("no such PERSON: " + far, () -> v.person(far, 0), BOUNDS);
            C.dueThrow("another what: " + far, () -> v.person(0, far), ELEMENT);
            C.dueThrow("of both the one told first", () -> v.person(far, far), BOUNDS);
        }
        C.dueThrow("another what: 6", () -> v.person(1, 6), ELEMENT);
        C.dueThrow("another what: -1", () -> v.person(1, -1), ELEMENT);
        BackVillage nine = Check.of("person 1;".repeat(8) + "person 1");
        for (int p = 0; p < 9; p++) {
            nine.turn(p, 8);
        }
        C.due("bits of the last of 9", nine.person(0, 1), 256);
        C.due("all 9 SEE the last", nine.person(8, 2), 511);
        C.due("the last alone is SURE", nine.count(8), 256);
        C.due("sets of none are 0", nine.person(0, 2), 0);
    }

    private static void holdsThatOneToo() {
        BackVillage v = Check.of(PAIR);
        C.due("HOLDS by sight of one", v.person(0, 4), 2);
        v.turn(0, 0);
        C.due("HOLDS: that one, too", v.person(0, 4), 1);
        BackVillage blind = Check.of("person 1;person 0");
        C.due("HOLDS all that are LEFT", blind.person(0, 4), 4);
        blind.read(1);
        C.due("HOLDS none that is LEFT no more", blind.person(0, 4), 2);
    }

    private static void leftBounds() {
        BackVillage v = Check.of("values 3;person 2;person 2");
        C.due("the first WORLD", v.left(0), true);
        C.due("the last WORLD", v.left(8), true);
        C.dueThrow("no such WORLD: 9", () -> v.left(9), BOUNDS);
        C.dueThrow("no such WORLD: -1", () -> v.left(-1), BOUNDS);
        C.dueThrow("no such WORLD: the greatest number", () -> v.left(Integer.MAX_VALUE), BOUNDS);
        C.dueThrow("no such WORLD: the least number", () -> v.left(Integer.MIN_VALUE), BOUNDS);
        v.read(0);
        C.due("LEFT no more", v.left(0), false);
        C.due("LEFT still", v.left(8), true);
        BackVillage full = Check.of("person 1;".repeat(8) + "person 1");
        C.due("the last of 512", full.left(511), true);
        C.dueThrow("no 513th", () -> full.left(512), BOUNDS);
    }

    private static void apartBounds() {
        BackVillage v = Check.of(PAIR + ";least 1 have 1");
        C.due("false, if they are one", v.apart(0, 2, 2), false);
        C.due("who SEES it", v.apart(0, 2, 3), true);
        C.due("who does not", v.apart(0, 1, 3), false);
        C.dueThrow("one is LEFT no more", () -> v.apart(0, 0, 2), STATE);
        C.dueThrow("the other one is LEFT no more", () -> v.apart(0, 2, 0), STATE);
        C.dueThrow("both are one that is LEFT no more", () -> v.apart(0, 0, 0), STATE);
        C.dueThrow("no such WORLD ahead of one LEFT no more", () -> v.apart(0, 0, 4), BOUNDS);
        C.dueThrow("no such WORLD, both one", () -> v.apart(0, 4, 4), BOUNDS);
        C.dueThrow("no such PERSON ahead of one LEFT no more", () -> v.apart(2, 0, 0), BOUNDS);
        for (int far : FAR) {
            C.dueThrow("no such PERSON: " + far, () -> v.apart(far, 1, 2), BOUNDS);
            C.dueThrow("no such WORLD: " + far, () -> v.apart(0, far, 2), BOUNDS);
            C.dueThrow("no such other WORLD: " + far, () -> v.apart(0, 1, far), BOUNDS);
        }
    }

    private static void sureBounds() {
        BackVillage v = Check.of(PAIR + ";least 1 have 1");
        C.due("SURE in a WORLD that is not THE WORLD", v.sure(1, 1), true);
        C.due("not SURE in the last", v.sure(1, 3), false);
        C.dueThrow("LEFT no more", () -> v.sure(0, 0), STATE);
        C.dueThrow("no such WORLD", () -> v.sure(0, 4), BOUNDS);
        C.dueThrow("no such PERSON ahead of a WORLD LEFT no more", () -> v.sure(2, 0), BOUNDS);
        for (int far : FAR) {
            C.dueThrow("no such PERSON: " + far, () -> v.sure(far, 2), BOUNDS);
            C.dueThrow("no such WORLD: " + far, () -> v.sure(0, far), BOUNDS);
        }
        BackVillage zero = Check.of("person 0;person 1;sees 0 1;least 1 have 0");
        // by 0: 0 is SURE where 1 has a 1, that is in 01; 11 is LEFT no more
        C.due("SURE by a WORLD that is LEFT no more", zero.sure(0, 1), true);
        C.due("not SURE in the WORLD of CODE 0", zero.sure(0, 0), false);
        C.dueThrow("LEFT no more: the last", () -> zero.sure(0, 3), STATE);
        zero.claim(1, 0);
        C.due("asked, 0 is SURE", zero.ask(0), true);
        C.due("the WORLD of CODE 0 is LEFT no more by it", zero.left(0), false);
    }

    private static void mannerBounds() {
        BackVillage v = Check.of("values 4;person 3;person 0;person 1;sees 0 1;least 1 have 3");
        Check.rule(v, "act 1;act 10 if theirs > 2;act 100 if sure");
        int world = 3 * 16 + 1;
        C.due("in THE WORLD", v.manner(0, 1, world), 1);
        C.due("in the last WORLD", v.manner(0, 1, 63), 11);
        C.dueThrow("both are one", () -> v.manner(0, 0, world), ARGUMENT);
        C.dueThrow("both are one ahead of a WORLD LEFT no more", () -> v.manner(0, 0, 0), ARGUMENT);
        C.dueThrow("LEFT no more", () -> v.manner(0, 1, 0), STATE);
        C.dueThrow("one does not SEE the other", () -> v.manner(0, 2, world), STATE);
        C.dueThrow("seen by the other way alone", () -> v.manner(1, 0, world), STATE);
        C.dueThrow("no such WORLD ahead of both are one", () -> v.manner(0, 0, 64), BOUNDS);
        C.dueThrow("no such PERSON ahead of both are one", () -> v.manner(3, 3, world), BOUNDS);
        for (int far : FAR) {
            C.dueThrow("no such one: " + far, () -> v.manner(far, 1, world), BOUNDS);
            C.dueThrow("no such other one: " + far, () -> v.manner(0, far, world), BOUNDS);
            if (far != 10) {
                C.dueThrow("no such WORLD: " + far, () -> v.manner(0, 1, far), BOUNDS);
            }
        }
    }

    // ---- what is done

    private static void treatBounds() {
        BackVillage v = Check.of("person 1;person 0;person 1;sees 0 1");
        C.dueThrow("both are one", () -> v.treat(0, 0, false), ARGUMENT);
        C.dueThrow("no such PERSON ahead of both are one", () -> v.treat(3, 3, true), BOUNDS);
        C.dueThrow("one does not SEE the other", () -> v.treat(0, 2, false), STATE);
        C.dueThrow("one does not SEE the other, before all", () -> v.treat(1, 0, true), STATE);
        for (int far : FAR) {
            C.dueThrow("no such one: " + far, () -> v.treat(far, 1, false), BOUNDS);
            C.dueThrow("no such other one: " + far, () -> v.treat(0, far, true), BOUNDS);
        }
        C.due("of refused ones no row", v.count(9), 0);
        C.due("without a law: 0", v.treat(0, 1, true), 0);
        C.due("told by nothing", v.person(1, 4), 8);
        v.turn(2, 2);
        C.dueThrow("both are one, also who SEES oneself", () -> v.treat(2, 2, true), ARGUMENT);
    }

    private static void treatLearners() {
        for (int all = 0; all < 2; all++) {
            BackVillage v = Check.of("person 1;person 0;person 1;person 1;sees 1 0;sees 3 2");
            Check.rule(v, "act 4 if theirs > 0");
            C.due("the MANNER", v.treat(1, 0, all == 1), 4);
            C.due("the other one learns", v.knows(0, 0), 1);
            C.due("before all everybody learns: 2", v.knows(2, 0), all == 1 ? 1 : -1);
            C.due("before all everybody learns: 3", v.knows(3, 0), all == 1 ? 1 : -1);
            C.due("the other one knows nothing else", v.person(0, 5), 1);
            C.due("all WORLDS are LEFT still", v.count(6), 16);
            C.due("others are SURE of nothing", v.count(8), 1);
            C.due("in each WORLD the other one learns", v.thinks(2, 0, 0), true);
        }
    }

    private static void treatByThen() {
        BackVillage v = Check.of(MUDDY);
        Check.rule(v, "act 1 if sure");
        C.due("not SURE: 0", v.treat(0, 1, false), 0);
        C.due("TOLD APART where it would have been SURE", v.apart(1, 2, 3), true);
        C.due("LEFT all the same", v.left(2), true);
        Check.rule(v, "");
        C.due("from then on, whatever THE LAW is", v.apart(1, 2, 3), true);
        v.ask(1);
        C.due("as it was by then", v.knows(1, 1), 1);
        BackVillage day = Check.of("person 1;person 0;sees 1 0");
        Check.rule(day, "act 1 if theirs > 0 and day < 1");
        C.due("by DAY 0", day.treat(1, 0, false), 1);
        day.day();
        C.due("the MANNER by DAY 1", day.treat(1, 0, false), 0);
        C.due("what came by DAY 0 stays", day.knows(0, 0), 1);
        BackVillage zero = Check.of("person 0;person 1;sees 1 0");
        Check.rule(zero, "act 5 if theirs < 1");
        C.due("of the WORLD of CODE 0", zero.treat(1, 0, false), 5);
        C.due("the WORLD of CODE 0 is TOLD APART", zero.apart(0, 0, 2), true);
        C.due("but not from one of the same MANNER", zero.apart(0, 0, 1), false);
        BackVillage first = Check.of("person 0;person 0;sees 0 1;sees 1 0;most 1 have 1");
        Check.rule(first, "act 1 if sure");
        // in 00 who sees a 0 is not SURE, in 01 and 10 who sees a 1 is
        C.due("in the WORLD of CODE 0", first.treat(0, 1, true), 0);
        C.due("the other one is SURE by it", first.count(8), 2);
        BackVillage sure = Check.of("values 4;person 3;person 3;person 0;sees 0 1");
        Check.rule(sure, "act 1 if sure and theirs > 2;act 2 if theirs < 3");
        sure.turn(0, 0);
        C.due("by one who is SURE, of the greatest NOTICE", sure.treat(0, 1, false), 1);
        C.due("it gives away the greatest NOTICE", sure.knows(1, 1), 3);
        BackVillage low = Check.of("person 0;person 0;sees 0 1");
        Check.rule(low, "act 1 if sure");
        low.turn(0, 0);
        C.due("by one who is SURE in the WORLD of CODE 0", low.treat(0, 1, false), 1);
        low.turn(1, 0);
        C.due("TOLD APART from it by a back", low.apart(1, 0, 2), true);
        C.due("not TOLD APART from it", low.apart(1, 0, 1), false);
    }

    private static void turnBounds() {
        BackVillage v = Check.of("values 3;person 2;person 0");
        C.due("the NOTICE", v.turn(0, 1), 0);
        C.due("one SEES it from then on", v.person(0, 1), 2);
        C.due("one's own, in a pond", v.turn(0, 0), 2);
        C.due("one SEES one's own as well", v.person(0, 1), 3);
        C.due("a back that one SEES already", v.turn(0, 1), 0);
        C.due("is an ACT all the same", v.count(10), 3);
        C.due("but tells nothing", v.person(0, 4), 1);
        C.due("all know who SEES whom", v.thinks(1, 0, 0), true);
        C.dueThrow("no such PERSON: 2", () -> v.turn(2, 0), BOUNDS);
        C.dueThrow("no such other PERSON: 2", () -> v.turn(0, 2), BOUNDS);
        for (int far : FAR) {
            C.dueThrow("no such PERSON: " + far, () -> v.turn(far, 0), BOUNDS);
            C.dueThrow("no such other PERSON: " + far, () -> v.turn(0, far), BOUNDS);
        }
        BackVillage zero = Check.of("person 0;person 0");
        zero.turn(0, 1);
        C.due("TOLD APART from the WORLD of CODE 0", zero.apart(0, 0, 1), true);
        C.due("not TOLD APART from the WORLD of CODE 0", zero.apart(0, 0, 2), false);
    }

    private static void askBounds() {
        BackVillage v = Check.of(MUDDY);
        C.due("not SURE", v.ask(0), false);
        C.due("where one would be SURE is LEFT no more", v.left(2), false);
        C.due("all others are LEFT", v.count(6), 2);
        C.due("DAY is as it was", v.count(4), 0);
        BackVillage w = Check.of("person 1;person 0;sees 0 1;least 1 have 1");
        C.due("SURE", w.ask(0), true);
        C.due("where one would not be SURE is LEFT no more", w.count(6), 1);
        C.due("asked once more", w.ask(0), true);
        C.due("nothing more is told", w.count(6), 1);
        C.dueThrow("no such PERSON: 2", () -> v.ask(2), BOUNDS);
        C.dueThrow("no such PERSON: NONE", () -> v.ask(-1), BOUNDS);
        for (int far : FAR) {
            C.dueThrow("no such PERSON: " + far, () -> v.ask(far), BOUNDS);
        }
    }

    private static void dayBounds() {
        BackVillage v = Check.of("person 1;person 1");
        C.due("nobody is SURE", v.day(), 0);
        C.due("all WORLDS are LEFT", v.count(6), 4);
        C.due("DAY is 1 more", v.count(4), 1);
        for (int i = 2; i <= 300; i++) {
            v.day();
        }
        C.due("DAY is 1 more each time", v.count(4), 300);
        BackVillage w = Check.of("person 0;person 0;sees 0 1;sees 1 0;most 1 have 1");
        C.due("of 0s, nobody is SURE", w.day(), 0);
        C.due("the WORLD of CODE 0 alone is LEFT", w.count(6), 1);
        C.due("all are SURE then", w.day(), 3);
        BackVillage third = Check.of("values 3;person 1;person 1;sees 1 0");
        Check.rule(third, "act 1 if theirs < 1");
        third.treat(1, 0, false);
        C.due("who would be SURE of a 0 is not", third.day(), 0);
        C.due("WORLDS in which somebody would be SURE", third.count(6), 6);
        C.due("the WORLD of CODE 0 among them", third.left(0), false);
        BackVillage one = Check.of("person 1;person 0;sees 0 1;sees 1 0;least 1 have 1");
        C.due("one of two says so", one.day(), 1);
        C.due("somebody's answer is unlike in all others", one.count(6), 1);
    }

    private static void readBounds() {
        BackVillage v = Check.of("values 4;person 3;person 0");
        C.due("the greatest NOTICE", v.read(0), 3);
        C.due("LEFT: of one NOTICE", v.count(6), 4);
        C.due("the WORLD of CODE 0 is LEFT no more", v.left(0), false);
        C.due("the least NOTICE, of the last PERSON", v.read(1), 0);
        C.due("one WORLD is LEFT", v.count(6), 1);
        C.due("once more", v.read(1), 0);
        C.due("an ACT all the same", v.count(10), 3);
        C.dueThrow("no such PERSON: 2", () -> v.read(2), BOUNDS);
        C.dueThrow("no such PERSON: NONE", () -> v.read(-1), BOUNDS);
        for (int far : FAR) {
            C.dueThrow("no such PERSON: " + far, () -> v.read(far), BOUNDS);
        }
        BackVillage fresh = Check.of("person 1;person 1");
        fresh.claim(0, 1);
        C.due("read behind another ACT", fresh.read(1), 1);
        C.due("the WORLD of CODE 0 is LEFT no more then", fresh.left(0), false);
    }

    private static void claimBounds() {
        BackVillage v = Check.of("values 3;person 2;person 2;person 0");
        C.due("N at least: fewer than there are", v.claim(1, 2), 2);
        C.due("LEFT: 27 less 8", v.count(6), 19);
        C.due("N at least: as many as there are", v.claim(2, 2), 2);
        C.due("LEFT: two or three of them", v.count(6), 7);
        C.dueThrow("it is not so: one more than there are", () -> v.claim(3, 2), STATE);
        C.due("N 0 of a NOTICE that nobody has", v.claim(0, 1), 0);
        C.due("N 0 tells nothing", v.count(6), 7);
        C.dueThrow("it is not so: of a NOTICE that nobody has", () -> v.claim(1, 1), STATE);
        C.dueThrow("it is not so: N 9", () -> v.claim(9, 2), STATE);
        C.dueThrow("N is none: 10", () -> v.claim(10, 2), ARGUMENT);
        C.dueThrow("N is none: -1", () -> v.claim(-1, 2), ARGUMENT);
        C.dueThrow("no such NOTICE: 3", () -> v.claim(1, 3), BOUNDS);
        C.dueThrow("no such NOTICE: -1", () -> v.claim(1, -1), BOUNDS);
        C.dueThrow("no such NOTICE ahead of N is none", () -> v.claim(10, 3), BOUNDS);
        for (int far : FAR) {
            C.dueThrow("N is none: " + far, () -> v.claim(far, 2), ARGUMENT);
            C.dueThrow("no such NOTICE: " + far, () -> v.claim(0, far), BOUNDS);
        }
        C.due("of refused ones no row", v.count(9), 3);
        BackVillage nine = Check.of("person 1;".repeat(8) + "person 1");
        C.due("N 9 of 9", nine.claim(9, 1), 9);
        C.due("LEFT: all have it", nine.count(6), 1);
    }

    private static void queryBounds() {
        BackVillage v = Check.of("values 3;person 2;person 1;sees 0 1");
        C.due("2: one KNOWS neither", v.query(0, 0, 2), 2);
        C.due("2 tells nothing here", v.count(6), 9);
        C.due("0: none of those POSSIBLE", v.query(0, 1, 0), 0);
        C.due("LEFT by 0", v.count(6), 6);
        C.due("1: one KNOWS that it is", v.query(0, 1, 1), 1);
        C.due("LEFT by 1", v.count(6), 3);
        C.due("one's own, too: 1", v.query(1, 1, 1), 1);
        C.due("one's own, too: 0", v.query(1, 1, 2), 0);
        C.due("the least NOTICE", v.query(1, 0, 0), 2);
        C.dueThrow("no such NOTICE: 3", () -> v.query(0, 0, 3), BOUNDS);
        C.dueThrow("no such NOTICE: -1", () -> v.query(0, 0, -1), BOUNDS);
        C.dueThrow("no such PERSON: 2", () -> v.query(2, 0, 0), BOUNDS);
        C.dueThrow("no such PERSON whose: 2", () -> v.query(0, 2, 0), BOUNDS);
        for (int far : FAR) {
            C.dueThrow("no such PERSON: " + far, () -> v.query(far, 0, 0), BOUNDS);
            C.dueThrow("no such PERSON whose: " + far, () -> v.query(0, far, 0), BOUNDS);
            C.dueThrow("no such NOTICE: " + far, () -> v.query(0, 0, far), BOUNDS);
        }
        BackVillage w = Check.of("person 1;person 1;sees 0 1;sees 1 0;least 1 have 1");
        C.due("2 tells where one would KNOW", w.query(0, 0, 1), 2);
        C.due("LEFT by 2", w.count(6), 2);
        BackVillage zero = Check.of("person 1;person 0;sees 0 1");
        zero.query(0, 0, 0);
        C.due("2 in the WORLD of CODE 0 as well", zero.left(0), true);
        C.due("1 of a 0", zero.query(0, 1, 0), 1);
        C.due("the WORLD of CODE 0 is LEFT still", zero.left(0), true);
    }

    // ---- strolls and draws

    private static long next(long seed) {
        return (1103515245L * (seed & 0xffffffffL) + 12345) & 0xffffffffL;
    }

    private static void strollBounds() {
        BackVillage v = Check.of(PAIR);
        C.dueThrow("N is none: 0", () -> v.stroll(0), ARGUMENT);
        C.dueThrow("N is none: 31", () -> v.stroll(31), ARGUMENT);
        C.dueThrow("N is none: -1", () -> v.stroll(-1), ARGUMENT);
        for (int far : FAR) {
            if (far != 10) {
                C.dueThrow("N is none: " + far, () -> v.stroll(far), ARGUMENT);
            }
        }
        C.due("of refused ones nothing is drawn", v.seed(1), 1);
        C.due("of refused ones nothing is to be UNDONE", v.count(10), 0);
        long s = next(next(1));
        C.due("by 1, of seed 1: both draws are one or not SEEN", v.stroll(1), 0);
        C.due("both drawn in any case", v.seed(1), (int) s);
        C.due("an ACT, also if nobody was TREATED", v.count(10), 1);
        C.due("but no row", v.count(9), 0);
        BackVillage none = new BackVillage();
        C.due("without PEOPLE", none.stroll(30), 0);
        C.due("without PEOPLE nothing is drawn", none.seed(1), 1);
        BackVillage one = Check.of("person 1");
        one.turn(0, 0);
        C.due("if they are two: one alone", one.stroll(30), 0);
        long drawn = 1;
        for (int i = 0; i < 60; i++) {
            drawn = next(drawn);
        }
        C.due("60 draws for nobody TREATED", one.seed(1), (int) drawn);
        BackVillage blind = Check.of("person 1;person 0;person 1");
        C.due("who SEES whom: nobody", blind.stroll(30), 0);
        C.due("60 draws of the blind", blind.seed(1), (int) drawn);
    }

    private static void draws() {
        draws("person 1;person 0;person 1;person 0;person 1", 5, 1, 30);
        draws("person 1;person 0;person 1", 3, 0, 29);
        draws("values 3;person 1;person 0;person 2;person 0", 4, 12345, 30);
        draws("person 1;".repeat(8) + "person 1", 9, 3, 30);
    }

    private static void drawsGoRound() {
        for (int seed : new int[] {-1, Integer.MAX_VALUE, Integer.MIN_VALUE, 1 << 30, 65535, -65536, 1103515245}) {
            draws("person 1;person 0;person 1;person 0;person 1", 5, seed, 12);
        }
    }

    /** A stroll of people all of whom see all, against draws reckoned by longs. */
    private static void draws(String people, int many, int seed, int n) {
        BackVillage v = Check.of(people);
        for (int p = 0; p < many * many; p++) {
            if (p / many != p % many) {
                v.turn(p / many, p % many);
            }
        }
        int rows = v.count(9);
        v.seed(seed);
        int treated = v.stroll(n);
        long s = seed;
        int want = 0;
        int[] who = new int[n];
        int[] whom = new int[n];
        for (int i = 0; i < n; i++) {
            s = next(s);
            who[want] = (int) (s >> 16 & 0x7fff) % many;
            s = next(s);
            whom[want] = (int) (s >> 16 & 0x7fff) % many;
            want += who[want] == whom[want] ? 0 : 1;
        }
        C.due("how often somebody was TREATED, from " + seed, treated, want);
        C.due("bits 16 to 30, as an int that goes round: SEED from " + seed, v.seed(1), (int) s);
        C.due("of a STROLL each TREATED", v.count(9), Math.min(60, rows + want));
        for (int i = 0; i < want; i++) {
            C.due("kind from " + seed, v.log(want - 1 - i, 0), 0);
            C.due("who, from " + seed, v.log(want - 1 - i, 1), who[i]);
            C.due("whom, from " + seed, v.log(want - 1 - i, 2), whom[i]);
        }
    }

    // ---- the log

    private static void row(BackVillage v, int ago, int... want) {
        for (int what = 0; what < 5; what++) {
            C.due("row " + ago + " ago, what " + what, v.log(ago, what), want[what]);
        }
    }

    private static void logBounds() {
        BackVillage v = Check.of("values 3;person 2;person 0;sees 1 0");
        C.due("NONE without rows", v.log(0, 0), -1);
        Check.rule(v, "act 6 if theirs > 1");
        v.treat(1, 0, false);
        row(v, 0, 0, 1, 0, 6, 1);
        v.treat(1, 0, true);
        row(v, 0, 1, 1, 0, 6, 1);
        v.turn(0, 1);
        row(v, 0, 2, 0, 1, 0, 1);
        v.ask(1);
        row(v, 0, 3, 1, -1, 0, 1);
        v.ask(0);
        row(v, 0, 3, 0, -1, 1, 1);
        v.day();
        row(v, 0, 4, -1, -1, 1, 1);
        v.claim(0, 1);
        row(v, 0, 6, 1, -1, 0, 1);
        v.query(0, 1, 2);
        row(v, 0, 7, 0, 1, 0, 1);
        v.query(0, 1, 0);
        row(v, 0, 7, 0, 1, 1, 3);
        v.read(1);
        row(v, 0, 5, 1, -1, 0, 3);
        row(v, 9, 0, 1, 0, 6, 1);
        C.due("NONE: as many ago as there are rows", v.log(10, 0), -1);
        C.due("NONE: -1 ago", v.log(-1, 0), -1);
        C.due("NONE: 60 ago", v.log(60, 4), -1);
        for (int far : FAR) {
            C.due("NONE: ago " + far, v.log(far, 0), -1);
            C.dueThrow("another what: " + far, () -> v.log(0, far), ELEMENT);
        }
        C.dueThrow("another what: 5", () -> v.log(0, 5), ELEMENT);
        C.dueThrow("another what: -1", () -> v.log(0, -1), ELEMENT);
        C.dueThrow("another what of no row", () -> v.log(-1, 5), ELEMENT);
    }

    private static void logLatest() {
        BackVillage v = Check.of("person 1;person 0");
        v.read(0);
        v.turn(0, 1);
        for (int i = 0; i < 58; i++) {
            v.day();
        }
        C.due("60 rows", v.count(9), 60);
        row(v, 59, 5, 0, -1, 1, 1);
        v.claim(1, 1);
        C.due("the latest 60 alone", v.count(9), 60);
        row(v, 59, 2, 0, 1, 0, 1);
        row(v, 0, 6, 1, -1, 1, 1);
        C.due("60 ago there is none", v.log(60, 0), -1);
        v.claim(1, 0);
        row(v, 59, 4, -1, -1, 1, 1);
        row(v, 1, 6, 1, -1, 1, 1);
        C.due("UNDONE: the row is away, and the oldest is back", v.undo() && v.undo(), true);
        C.due("UNDONE: 60 rows", v.count(9), 60);
        row(v, 59, 5, 0, -1, 1, 1);
        row(v, 0, 4, -1, -1, 1, 1);
    }

    private static void logOfStroll() {
        BackVillage v = Check.of(PAIR);
        Check.rule(v, "act 3");
        int treated = v.stroll(30) + v.stroll(30) + v.stroll(30) + v.stroll(30) + v.stroll(30);
        C.due("more TREATED than rows", treated > 60, true);
        C.due("the latest 60 of them", v.count(9), 60);
        C.due("a STROLL is one to be UNDONE", v.count(10), 5);
        for (int ago = 0; ago < 60; ago++) {
            int who = v.log(ago, 1);
            row(v, ago, 0, who, 1 - who, 3, 0);
        }
    }

    private static void ledBounds() {
        BackVillage v = Check.of(PAIR + ";unlike 0 1");
        C.due("SURE, but THE LOG is empty", v.led(0), -1);
        v.day();
        C.due("SURE behind the latest", v.led(0), 0);
        v.day();
        v.day();
        C.due("the oldest of these that follow one another", v.led(0), 2);
        for (int i = 0; i < 57; i++) {
            v.day();
        }
        C.due("the oldest of 60", v.led(0), 59);
        v.day();
        C.due("of 60 rows at most", v.led(1), 59);
        BackVillage w = Check.of("person 1;person 0");
        w.day();
        C.due("none: not SURE behind the latest", w.led(0), -1);
        w.read(0);
        w.day();
        w.ask(0);
        C.due("behind which one was SURE: two ago", w.led(0), 2);
        C.due("the other one is not", w.led(1), -1);
        w.read(1);
        C.due("by the latest", w.led(1), 0);
        C.due("three ago by then", w.led(0), 3);
        C.dueThrow("no such PERSON: 2", () -> w.led(2), BOUNDS);
        C.dueThrow("no such PERSON: NONE", () -> w.led(-1), BOUNDS);
        for (int far : FAR) {
            C.dueThrow("no such PERSON: " + far, () -> w.led(far), BOUNDS);
        }
    }

    private static void ledBehindTexts() {
        BackVillage v = Check.of("person 1;person 0;sees 0 1");
        v.day();
        Check.tell(v, "unlike 0 1");
        C.due("SURE by a text", v.person(0, 3), 1);
        C.due("but not behind the latest row", v.led(0), -1);
        v.day();
        C.due("SURE behind the next row", v.led(0), 0);
    }

    // ---- the seed, acts undone, the image

    private static void seedBounds() {
        BackVillage v = new BackVillage();
        C.due("SEED 1 at first", v.seed(Integer.MAX_VALUE), 1);
        C.due("what it was: the greatest", v.seed(Integer.MIN_VALUE), Integer.MAX_VALUE);
        C.due("what it was: the least", v.seed(0), Integer.MIN_VALUE);
        C.due("what it was: 0", v.seed(-1), 0);
        C.due("what it was: -1", v.seed(1), -1);
        C.due("no ACT", v.count(10), 0);
    }

    private static void undoneAsAhead() {
        for (int i = 0; i < ACTS.length; i++) {
            int which = i;
            Twin.sameState(C, "UNDONE: all is as ahead of it: " + ACTS[i], Twin::rich, v -> {
                act(v, which);
                C.due("whether there was one", v.undo(), true);
            }, v -> { });
            Twin.sameState(C, "UNDONE: SEED, too, as ahead of it: " + ACTS[i], Twin::rich, v -> {
                act(v, which);
                v.seed(-12);
                v.undo();
            }, v -> { });
        }
        Twin.sameState(C, "UNDONE: three behind one another", Twin::rich, v -> {
            act(v, 2);
            act(v, 8);
            act(v, 4);
            v.undo();
            v.undo();
            v.undo();
        }, v -> { });
        BackVillage v = Check.of(PAIR);
        C.due("whether there was one: none", v.undo(), false);
        v.day();
        v.undo();
        C.due("none that is UNDONE already", v.undo(), false);
        C.due("DAY is not below 0", v.count(4), 0);
    }

    private static void undoneEight() {
        BackVillage v = Check.of(PAIR);
        for (int i = 1; i <= 9; i++) {
            v.day();
            C.due("8 are remembered, behind " + i, v.count(10), Math.min(i, 8));
        }
        for (int i = 8; i >= 1; i--) {
            C.due("UNDONE: the latest not UNDONE yet", v.undo(), true);
            C.due("DAY ahead of it", v.count(4), i);
            C.due("remembered by then", v.count(10), i - 1);
        }
        C.due("the 9th is not remembered", v.undo(), false);
        C.due("DAY 1 stays", v.count(4), 1);
        for (int i = 0; i < 8; i++) {
            v.stroll(30);
        }
        C.due("8 STROLLS are 8", v.count(10), 8);
        C.due("a STROLL is one", v.undo(), true);
        C.due("7 by then", v.count(10), 7);
        v.day();
        C.due("8 once more", v.count(10), 8);
        v.day();
        C.due("and no more than 8", v.count(10), 8);
        v.undo();
        v.undo();
        C.due("DAY behind two UNDONE", v.count(4), 1);
    }

    private static void undoneButFor() {
        BackVillage v = Check.of(PAIR);
        v.day();
        Check.tape(v, "act 1;act 2");
        v.undo();
        C.due("but for the TAPE", v.law(), 2);
        v.day();
        C.dueThrow("a wrong text", () -> Check.tell(v, "sees 0"), ARGUMENT);
        v.undo();
        C.due("but for fault()", v.fault(), 6);
        v.day();
        v.image();
        v.undo();
        C.due("DAY is 0", v.count(4), 0);
        v.back();
        C.due("but for THE IMAGE", v.count(4), 1);
        BackVillage w = Check.of("person 1");
        w.day();
        w.undo();
        C.dueThrow("but that something was done", () -> Check.tell(w, "person 1"), ARGUMENT);
        C.due("so that the word is wrong", w.fault(), 0);
    }

    private static void noneRemembered() {
        BackVillage v = Check.of(PAIR);
        v.day();
        C.dueThrow("a wrong text", () -> Check.tell(v, "sees 0"), ARGUMENT);
        C.due("a wrong text changes nothing", v.count(10), 1);
        C.dueThrow("a wrong law", () -> Check.rule(v, "act"), ARGUMENT);
        C.due("a wrong law changes nothing", v.count(10), 1);
        C.due("going back to none", v.back(), false);
        C.due("false, and nothing happens", v.count(10), 1);
        v.image();
        C.due("an IMAGE kept is no text", v.count(10), 1);
        Check.tell(v, "sees 0 1");
        C.due("A text: none are remembered", v.count(10), 0);
        C.due("and none is UNDONE", v.undo(), false);
        v.day();
        Check.tell(v, "");
        C.due("A text that is empty: none are remembered", v.count(10), 0);
        v.day();
        Check.rule(v, "act 1");
        C.due("A text of THE LAW: none are remembered", v.count(10), 0);
        v.day();
        Check.rule(v, "");
        C.due("An empty law: none are remembered", v.count(10), 0);
        v.day();
        C.due("five DAYS", v.count(4), 5);
        v.back();
        C.due("going back: none are remembered", v.count(10), 0);
        C.due("none is UNDONE behind it", v.undo(), false);
        C.due("DAY of THE IMAGE", v.count(4), 1);
        v.day();
        Check.tape(v, "ab\1");
        v.rows(-1);
        Check.tape(v, "ab\1");
        v.liars(1, true);
        v.seed(4);
        C.due("rows, liars and a seed are no texts", v.count(10), 1);
        while (v.count(2) < 12) {
            Check.tell(v, "");
        }
        v.day();
        C.dueThrow("a text refused", () -> Check.tell(v, ""), UnsupportedOperationException.class);
        C.due("a text refused changes nothing", v.count(10), 1);
    }

    private static void changeAll(BackVillage v) {
        Check.tell(v, "sees 2 1;unlike 0 1");
        Check.rule(v, "act 9 if who < 1;act 8");
        v.seed(-99);
        for (int i = 0; i < ACTS.length; i++) {
            act(v, i);
        }
    }

    private static void imageOfAll() {
        Twin.sameLooks(C, "THE IMAGE of all is gone back to", Twin::rich, v -> {
            v.image();
            changeAll(v);
            C.due("true", v.back(), true);
        }, v -> { });
        Twin.sameLooks(C, "THE IMAGE is gone back to twice", Twin::rich, v -> {
            v.image();
            changeAll(v);
            v.back();
            changeAll(v);
            v.back();
        }, v -> { });
        Twin.sameLooks(C, "the IMAGE kept before is away", Twin::rich, v -> {
            v.day();
            v.image();
            changeAll(v);
            v.back();
        }, BackVillage::day);
        BackVillage v = new BackVillage();
        v.image();
        Check.tell(v, "values 4;person 3;person 2;sees 0 1");
        Check.rule(v, "act 1");
        v.seed(8);
        v.day();
        C.due("back to nobody", v.back(), true);
        int[] counts = {0, 2, 0, -1, 0, 1, 1, 0, 0, 0, 0};
        for (int i = 0; i < counts.length; i++) {
            C.due("THE IMAGE of nobody: count " + i, v.count(i), counts[i]);
        }
        C.due("THE IMAGE of nobody: SEED", v.seed(1), 1);
        C.dueThrow("THE IMAGE of nobody: no PERSON", () -> v.person(0, 0), BOUNDS);
    }

    private static void imageButFor() {
        BackVillage v = Check.of(PAIR);
        C.due("false, if none was kept", v.back(), false);
        v.day();
        C.due("false, and nothing happens", v.back(), false);
        C.due("DAY stays", v.count(4), 1);
        v.image();
        Check.tape(v, "act 1;act 2;act 3");
        v.back();
        C.due("but for the TAPE", v.law(), 3);
        C.dueThrow("a wrong text", () -> Check.tell(v, "x"), ARGUMENT);
        v.back();
        C.due("but for fault()", v.fault(), 0);
        C.due("no LAW any more", v.count(3), -1);
        v.day();
        v.back();
        v.back();
        C.due("but for THE IMAGE itself", v.count(4), 1);
    }

    private static void countBounds() {
        BackVillage v = Check.of("values 3;person 2;person 1;sees 0 1;unlike 0 1");
        int[] none = {2, 3, 1, -1, 0, 9, 6, 7, 0, 0, 0};
        for (int i = 0; i < none.length; i++) {
            C.due("count " + i, v.count(i), none[i]);
        }
        C.due("NONE for another what: 11", v.count(11), -1);
        C.due("NONE for another what: -1", v.count(-1), -1);
        for (int far : FAR) {
            if (far != 10) {
                C.due("NONE for another what: " + far, v.count(far), -1);
            }
        }
        C.due("LINES of THE LAW: NONE without one", v.count(3), -1);
        Check.rule(v, "");
        C.due("LINES of a law without any", v.count(3), 0);
    }

    // ---- calls that are refused

    private interface Refused {
        void on(BackVillage v);
    }

    private static void refused(String what, Class<? extends RuntimeException> due, Refused call) {
        Twin.sameInAll(C, "a call that throws changes nothing: " + what, Twin::rich,
            v -> C.dueThrow(what, () -> call.on(v), due), v -> { });
        Twin.sameInAll(C, "a call that throws changes nothing: " + what + ", nothing done yet", Twin::open,
            v -> C.dueThrow(what, () -> call.on(v), due), v -> { });
    }

    private static void refusedCalls() {
        refused("person, no such PERSON", BOUNDS, v -> v.person(4, 0));
        refused("person, another what", ELEMENT, v -> v.person(0, 6));
        refused("left, no such WORLD", BOUNDS, v -> v.left(16));
        refused("apart, no such PERSON", BOUNDS, v -> v.apart(4, 11, 11));
        refused("apart, no such WORLD", BOUNDS, v -> v.apart(0, 11, 16));
        refused("sure, no such WORLD", BOUNDS, v -> v.sure(0, 16));
        refused("manner, both are one", ARGUMENT, v -> v.manner(0, 0, 11));
        refused("manner, not SEEN", STATE, v -> v.manner(0, 2, 11));
        refused("treat, no such PERSON", BOUNDS, v -> v.treat(0, 4, true));
        refused("treat, both are one", ARGUMENT, v -> v.treat(1, 1, false));
        refused("treat, not SEEN", STATE, v -> v.treat(0, 2, false));
        refused("turn, no such PERSON", BOUNDS, v -> v.turn(4, 0));
        refused("turn, no such other PERSON", BOUNDS, v -> v.turn(0, 4));
        refused("ask, no such PERSON", BOUNDS, v -> v.ask(4));
        refused("read, no such PERSON", BOUNDS, v -> v.read(4));
        refused("claim, no such NOTICE", BOUNDS, v -> v.claim(0, 2));
        refused("claim, N is none", ARGUMENT, v -> v.claim(10, 0));
        refused("claim, it is not so", STATE, v -> v.claim(4, 1));
        refused("query, no such PERSON", BOUNDS, v -> v.query(4, 0, 0));
        refused("query, no such PERSON whose", BOUNDS, v -> v.query(0, 4, 0));
        refused("query, no such NOTICE", BOUNDS, v -> v.query(0, 0, 2));
        refused("stroll, N is none: 0", ARGUMENT, v -> v.stroll(0));
        refused("stroll, N is none: 31", ARGUMENT, v -> v.stroll(31));
        refused("possible", BOUNDS, v -> v.possible(0, 4));
        refused("knows", BOUNDS, v -> v.knows(4, 0));
        refused("thinks", BOUNDS, v -> v.thinks(0, 0, 4));
        refused("common", BOUNDS, v -> v.common(4));
        refused("muddy", BOUNDS, v -> v.muddy(4));
        refused("backs", BOUNDS, v -> v.backs(4));
        refused("gives", BOUNDS, v -> v.gives(4));
        refused("never", BOUNDS, v -> v.never(4));
        refused("question", BOUNDS, v -> v.question(4));
        refused("queries", BOUNDS, v -> v.queries(4));
        refused("spill", BOUNDS, v -> v.spill(4));
        refused("game", BOUNDS, v -> v.game(4, true));
        refused("steps", BOUNDS, v -> v.steps(0, 4));
        refused("trial", ARGUMENT, v -> v.trial(31));
        refused("span", ARGUMENT, v -> v.span(-1, true));
        refused("nth", BOUNDS, v -> v.nth(4, 0));
        refused("guess", BOUNDS, v -> v.guess(4));
        refused("right", BOUNDS, v -> v.right(4));
        refused("married", BOUNDS, v -> v.married(4));
        refused("led", BOUNDS, v -> v.led(4));
        refused("log", ELEMENT, v -> v.log(0, 5));
        refusedOfWorldsGone();
        refusedTapes();
    }

    private static void refusedOfWorldsGone() {
        for (Refused call : new Refused[] {v -> v.apart(0, 0, 11), v -> v.sure(0, 0), v -> v.manner(0, 1, 0)}) {
            Twin.sameInAll(C, "a call that throws changes nothing: of a WORLD LEFT no more", Twin::rich,
                v -> C.dueThrow("LEFT no more", () -> call.on(v), STATE), v -> { });
        }
    }

    /** The TAPE is used up by these, and nothing else is changed. */
    private static void refusedTapes() {
        Twin.sameState(C, "rows refused change nothing", Twin::rich,
            v -> C.dueThrow("rows", () -> v.rows(0), ARGUMENT), v -> { });
        Twin.sameState(C, "liars refused change nothing", Twin::rich,
            v -> C.dueThrow("liars", () -> v.liars(0, true), ARGUMENT), v -> { });
        Twin.Deed twelve = v -> {
            while (v.count(2) < 12) {
                Check.tell(v, "");
            }
            v.day();
        };
        Twin.sameState(C, "a 13th text changes nothing", Twin::rich, v -> {
            twelve.on(v);
            C.dueThrow("a 13th text", () -> Check.tell(v, "sees 0 2;unlike 0 1"), UnsupportedOperationException.class);
        }, twelve);
        Twin.sameState(C, "a wrong 13th text changes nothing", Twin::rich, v -> {
            twelve.on(v);
            C.dueThrow("a wrong 13th text", () -> Check.tell(v, "sees 0 2;unlike 0 0"), ARGUMENT);
        }, twelve);
    }

    private static void firstException() {
        BackVillage v = Check.of("person 1;person 0;person 1;sees 0 1;least 1 have 1");
        C.dueThrow("person: PERSON, then what", () -> v.person(3, 6), BOUNDS);
        C.dueThrow("apart: no such, then LEFT no more", () -> v.apart(0, 0, 8), BOUNDS);
        C.dueThrow("sure: no such, then LEFT no more", () -> v.sure(3, 0), BOUNDS);
        C.dueThrow("manner: no such, then both one", () -> v.manner(0, 0, 8), BOUNDS);
        C.dueThrow("manner: both one, then LEFT no more", () -> v.manner(0, 0, 0), ARGUMENT);
        C.dueThrow("manner: both one, then not SEEN", () -> v.manner(2, 2, 5), ARGUMENT);
        C.dueThrow("treat: no such, then both one", () -> v.treat(3, 3, false), BOUNDS);
        C.dueThrow("treat: no such, then not SEEN", () -> v.treat(2, 3, false), BOUNDS);
        C.dueThrow("treat: both one, then not SEEN", () -> v.treat(2, 2, false), ARGUMENT);
        C.dueThrow("claim: no such NOTICE, then N is none", () -> v.claim(10, 2), BOUNDS);
        C.dueThrow("claim: N is none, then it is not so", () -> v.claim(10, 0), ARGUMENT);
        while (v.count(2) < 12) {
            Check.tell(v, "");
        }
        C.dueThrow("village: wrong, then 12", () -> Check.tell(v, "x"), ARGUMENT);
    }

    /** An object is used for at most 512 calls: all of them are answered. */
    private static void calls512() {
        BackVillage v = new BackVillage();
        v.feed(0x70657273, 0x6f6e2031, 0x3b706572, 0x736f6e20, 0x31000000);
        v.end(17);
        v.village();
        for (int call = 4; call < 512; call++) {
            switch (call % 4) {
                case 0:
                    v.day();
                    break;
                case 1:
                    v.query(0, 1, 1);
                    break;
                case 2:
                    v.stroll(30);
                    break;
                default:
                    C.due("still 4 WORLDS at call " + call, v.count(6), 4);
            }
        }
        C.due("the 512th call", v.count(4), 127);
    }
}
