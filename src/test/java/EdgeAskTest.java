/**
 * What the document's part 3 says of boundary cases of what is asked (promises 20 to 41, 43 and 44): a test for each
 * such sentence, which tells the sentence ahead of its case.
 */
public final class EdgeAskTest {
    private static final Check C = new Check("EdgeAskTest");
    private static final Class<IllegalArgumentException> ARGUMENT = IllegalArgumentException.class;
    private static final Class<IndexOutOfBoundsException> BOUNDS = IndexOutOfBoundsException.class;
    private static final int[] FAR = {-2, -3, 10, 512, Integer.MAX_VALUE, Integer.MIN_VALUE};
    private static final String NINE = "person 1;".repeat(8) + "person 1";
    private static final String MUDDY = "person 1;person 1;sees 0 1;sees 1 0;least 1 have 1";
    private static final String ONE_OF_THREE = "person 0;person 0;person 1;least 1 have 1;most 1 have 1";

    private interface Look {
        long of(BackVillage v);
    }

    public static void main(String[] args) {
        noSuchPerson();
        nothingIsChanged();
        possibleBits();
        knowsOrNone();
        thinksInAll();
        commonBySteps();
        muddyDays();
        muddyForty();
        backsFewest();
        givesOthers();
        neverOneself();
        questionFirst();
        questionNone();
        queriesFewest();
        queriesMany();
        spillNotNow();
        quietNobody();
        gameNow();
        gameBest();
        stepsFewest();
        trialBounds();
        trialFromNow();
        spanBounds();
        spanSeeds();
        nthBounds();
        guessLeast();
        rightAll();
        rowsMost();
        rowsPlaces();
        rowsTape();
        liarsBounds();
        liarsCounted();
        liarsTape();
        marriedFirst();
        widestLeast();
        underLeast();
        C.finish();
    }

    // ---- of all of these

    private static void bounds(String what, BackVillage v, Look[] looks) {
        for (Look look : looks) {
            C.dueThrow("no such PERSON: " + what, () -> look.of(v), BOUNDS);
        }
    }

    private static void noSuchPerson() {
        BackVillage v = Check.of("person 1;person 0;person 1");
        for (int p : new int[] {3, 4, 9, 31, 32, -2, Integer.MAX_VALUE, Integer.MIN_VALUE}) {
            bounds("" + p, v, new Look[] {w -> w.possible(p, 0), w -> w.possible(0, p), w -> w.knows(p, 0),
                w -> w.knows(0, p), w -> w.thinks(p, 0, 0) ? 1 : 0, w -> w.thinks(0, p, 0) ? 1 : 0,
                w -> w.thinks(0, 0, p) ? 1 : 0, w -> w.common(p), w -> w.muddy(p), w -> w.backs(p), w -> w.gives(p),
                w -> w.never(p), w -> w.question(p), w -> w.queries(p), w -> w.spill(p), w -> w.game(p, true),
                w -> w.game(p, false), w -> w.steps(p, 0), w -> w.steps(0, p), w -> w.nth(p, 0), w -> w.guess(p),
                w -> w.right(p), w -> w.married(p)});
        }
        bounds("NONE", v, new Look[] {w -> w.possible(-1, 0), w -> w.possible(0, -1), w -> w.knows(-1, 0),
            w -> w.knows(0, -1), w -> w.thinks(-1, 0, 0) ? 1 : 0, w -> w.thinks(0, -1, 0) ? 1 : 0,
            w -> w.thinks(0, 0, -1) ? 1 : 0, w -> w.common(-1), w -> w.backs(-1), w -> w.gives(-1), w -> w.never(-1),
            w -> w.question(-1), w -> w.queries(-1), w -> w.spill(-1), w -> w.game(-1, true), w -> w.steps(-1, 0),
            w -> w.steps(0, -1), w -> w.guess(-1)});
        C.due("NONE: somebody", v.muddy(-1), -1);
        C.due("NONE: that is LEFT", v.nth(-1, 7), 7);
        C.due("NONE: ALL RIGHT", v.right(-1), 1);
        C.due("NONE: how many pairs", v.married(-1), 0);
        BackVillage seven = Check.of("person 1;".repeat(6) + "person 1");
        C.dueThrow("no such PERSON, also with more than 6", () -> seven.queries(7), BOUNDS);
    }

    private static final Look[] LOOKS = {v -> v.fault(), v -> v.person(0, 4), v -> v.left(0) ? 1 : 0,
        v -> v.apart(1, 11, v.nth(-1, 0)) ? 1 : 0, v -> v.sure(1, v.nth(-1, 0)) ? 1 : 0, v -> v.manner(0, 1, 11),
        v -> v.manner(2, 0, v.nth(-1, 0)),
        v -> v.possible(1, 1), v -> v.knows(0, 1), v -> v.knows(1, 2), v -> v.thinks(0, 1, 2) ? 1 : 0, v -> v.common(0),
        v -> v.common(2), v -> v.muddy(-1), v -> v.muddy(1), v -> v.backs(1), v -> v.backs(2), v -> v.gives(0),
        v -> v.gives(2), v -> v.never(0), v -> v.never(2), v -> v.question(1), v -> v.question(2), v -> v.queries(1),
        v -> v.queries(2), v -> v.spill(0), v -> v.spill(2), v -> v.quiet(), v -> v.game(1, false),
        v -> v.game(2, true), v -> v.steps(1, 2), v -> v.steps(2, 2), v -> v.trial(0), v -> v.trial(30),
        v -> v.span(30, false), v -> v.span(30, true), v -> v.nth(-1, 1), v -> v.nth(1, 1), v -> v.guess(1),
        v -> v.guess(2), v -> v.right(1), v -> v.right(2), v -> v.right(-1), v -> v.married(-1), v -> v.married(2),
        v -> v.led(0), v -> v.widest(), v -> v.under(), v -> v.log(0, 3), v -> v.log(9, 0), v -> v.count(6)};

    private static void nothingIsChanged() {
        long[] first = new long[LOOKS.length];
        BackVillage v = Twin.rich();
        for (int i = 0; i < LOOKS.length; i++) {
            first[i] = LOOKS[i].of(v);
            Look look = LOOKS[i];
            Twin.sameInAll(C, "nothing is changed by it: look " + i, Twin::rich, look::of, w -> { });
        }
        for (int i = LOOKS.length - 1; i >= 0; i--) {
            C.due("nothing is changed by it: once more, behind all others: look " + i, LOOKS[i].of(v), first[i]);
        }
        for (Look look : new Look[] {w -> w.rows(-1), w -> w.rows(0), w -> w.liars(1, true), w -> w.liars(0, false)}) {
            Twin.sameState(C, "nothing but the TAPE is changed by rows and liars", Twin::rich, w -> {
                Check.tape(w, "ab\1");
                look.of(w);
            }, w -> { });
        }
        Twin.sameState(C, "nothing is changed, so that person may be told", Twin::open, w -> {
            w.trial(30);
            w.span(30, true);
            w.muddy(-1);
            w.queries(0);
        }, w -> { });
    }

    // ---- what one and all know

    private static void possibleBits() {
        BackVillage v = Check.of("values 4;person 3;person 0;sees 1 0;sees 0 1");
        C.due("of oneself all", v.possible(0, 0), 15);
        C.due("the greatest NOTICE as bits", v.possible(1, 0), 8);
        C.due("the least NOTICE as bits", v.possible(0, 1), 1);
        v.query(1, 0, 0);
        C.due("that one can rule out", v.possible(0, 0), 14);
        v.read(0);
        C.due("one alone", v.possible(0, 0), 8);
    }

    private static void knowsOrNone() {
        BackVillage v = Check.of("values 3;person 0;person 2;sees 0 1;sees 1 0");
        C.due("NOTICE 0, which is not NONE", v.knows(1, 0), 0);
        C.due("the greatest NOTICE", v.knows(0, 1), 2);
        C.due("NONE", v.knows(0, 0), -1);
        v.query(1, 0, 1);
        C.due("NONE of two", v.knows(0, 0), -1);
        v.query(1, 0, 2);
        C.due("one's own, as it is none of the others", v.knows(0, 0), 0);
    }

    private static void thinksInAll() {
        BackVillage v = Check.of("person 1;person 0;sees 0 1;sees 1 0;most 1 have 1");
        C.due("one is SURE", v.person(1, 3), 1);
        C.due("one KNOWS that of oneself", v.thinks(1, 1, 1), true);
        C.due("another one cannot: it HOLDS 00", v.thinks(0, 1, 1), false);
        C.due("that one KNOWS what one SEES", v.thinks(0, 1, 0), true);
        C.due("that one does not KNOW is not KNOWN", v.thinks(1, 0, 0), false);
        v.day();
        C.due("behind a DAY", v.thinks(0, 1, 1), true);
        BackVillage one = Check.of("person 1");
        C.due("one alone of oneself", one.thinks(0, 0, 0), false);
        one.turn(0, 0);
        C.due("one alone of oneself, in a pond", one.thinks(0, 0, 0), true);
    }

    private static void commonBySteps() {
        BackVillage one = Check.of("person 1");
        C.due("one alone that does not know: by a step to the WORLD of CODE 0", one.common(0), -1);
        one.turn(0, 0);
        C.due("THE WORLD alone is come to", one.common(0), 1);
        BackVillage zero = Check.of("person 0;person 1;sees 1 0");
        zero.turn(0, 0);
        C.due("NOTICE 0 in common, which is not NONE", zero.common(0), 0);
        C.due("NONE of what nobody KNOWS", zero.common(1), -1);
        // 010, by 1 to 000, and only from there by 0 to 100; the last one tells all apart
        BackVillage steps = Check.of("person 0;person 1;person 0;sees 0 1;sees 0 2;sees 1 0;sees 1 2;sees 2 0;sees 2 1;"
            + "most 1 have 1");
        steps.turn(2, 2);
        C.due("by two steps of others", steps.common(0), -1);
        C.due("in all WORLDS come to", steps.common(2), 0);
        BackVillage left = Check.of("person 1;person 1");
        left.read(0);
        C.due("WORLDS LEFT alone are come to", left.common(0), 1);
        left.read(1);
        C.due("one WORLD LEFT", left.common(1), 1);
    }

    private static void muddyDays() {
        BackVillage nine = Check.of(NINE);
        for (int p = 0; p < 9; p++) {
            StringBuilder t = new StringBuilder();
            for (int q = 0; q < 9; q++) {
                t.append(p == q ? "" : (t.length() > 0 ? ";" : "") + "sees " + p + " " + q);
            }
            Check.tell(nine, t.toString());
        }
        C.due("none, if nobody has told", nine.muddy(-1), -1);
        Check.tell(nine, "least 1 have 1");
        C.due("behind how many somebody: 8 of 9", nine.muddy(-1), 8);
        C.due("behind how many a told PERSON: 8 of 9", nine.muddy(4), 8);
        for (int day = 1; day <= 7; day++) {
            nine.day();
        }
        C.due("1: behind the next", nine.muddy(-1), 1);
        nine.day();
        C.due("0: now", nine.muddy(-1), 0);
        C.due("0: now, a told PERSON", nine.muddy(8), 0);
        BackVillage v = Check.of("person 1;person 1;person 0");
        v.turn(0, 0);
        C.due("0: somebody now", v.muddy(-1), 0);
        C.due("none, if not by 40: a told PERSON", v.muddy(1), -1);
        BackVillage later = Check.of("person 1;person 0;sees 0 1;sees 1 0;least 1 have 1");
        C.due("somebody now", later.muddy(-1), 0);
        C.due("a told one behind 1", later.muddy(1), 1);
        C.due("nothing happens by asking", later.count(4), 0);
    }

    /** Told apart so finely by six manners that 0 and 1 rule out but few of the 256 WORLDS a DAY. */
    private static BackVillage slow(int world) {
        BackVillage v = Check.of("values 4;person " + world / 64 + ";person " + world / 16 % 4 + ";person "
            + world / 4 % 4 + ";person " + world % 4 + ";sees 0 1;sees 0 3;sees 1 0;sees 1 2;sees 2 0;sees 2 1;"
            + "sees 2 3;sees 3 0;sees 3 1");
        Check.tell(v, "sees 3 2");
        // of each NOTICE two figures: the MANNER by one who is not SURE, and by one who is
        treated(v, 2, 3, "00020031");
        treated(v, 3, 2, "01132303");
        treated(v, 2, 3, "10010000");
        treated(v, 2, 1, "01211220");
        treated(v, 3, 1, "21131311");
        treated(v, 2, 0, "31032201");
        v.turn(2, 2);
        v.turn(3, 3);
        return v;
    }

    private static void treated(BackVillage v, int who, int whom, String manners) {
        StringBuilder law = new StringBuilder();
        for (int i = 0; i < manners.length(); i++) {
            if (manners.charAt(i) != '0') {
                law.append(law.length() == 0 ? "act " : ";act ").append(manners.charAt(i))
                    .append(i % 2 == 0 ? " if not sure" : " if sure")
                    .append(" and not(theirs<").append(i / 2).append(" or theirs>").append(i / 2).append(')');
            }
        }
        Check.rule(v, law.toString());
        v.treat(who, whom, false);
    }

    private static void muddyForty() {
        C.due("39", slow(19).muddy(0), 39);
        C.due("40 is the most", slow(19).muddy(1), 40);
        C.due("40 is the most, as PERSON 0 is SURE later", slow(32).muddy(1), 40);
        C.due("none, as it is 41", slow(32).muddy(0), -1);
        BackVillage v = slow(119);
        for (int left = 43; left > 0; left--) {
            C.due("PERSON 0 is SURE behind " + left, v.muddy(0), left > 40 ? -1 : left);
            C.due("PERSON 1 is SURE behind " + (left - 1), v.muddy(1), left > 41 ? -1 : left - 1);
            C.due("not SURE yet: " + left, v.person(0, 3), 0);
            v.day();
        }
        C.due("SURE behind 43", v.person(0, 3), 1);
        C.due("0: now", v.muddy(0), 0);
    }

    // ---- backs, manners, queries

    private static void backsFewest() {
        BackVillage v = Check.of(ONE_OF_THREE);
        C.due("both others at once", v.backs(2), 3);
        C.due("the one that has it is enough", v.backs(0), 4);
        v.turn(2, 0);
        C.due("none of what one SEES already", v.backs(2), 2);
        v.turn(2, 2);
        C.due("0, if one is", v.backs(2), 0);
        BackVillage none = Check.of("person 1;person 0");
        C.due("- 2, if none do", none.backs(0), -2);
        C.due("- 2 of one alone", Check.of("person 1").backs(0), -2);
        BackVillage few = Check.of("person 1;person 1;person 0;person 0;alike 2 3;most 3 have 1");
        C.due("the fewest, though more are less as bits", few.backs(3), 4);
        BackVillage several = Check.of("person 1;person 1;person 1;alike 0 1;alike 1 2");
        C.due("of several the least as bits", several.backs(0), 2);
        C.due("of several the least as bits, of the last", several.backs(2), 1);
        StringBuilder all = new StringBuilder(NINE.replace("1", "0"));
        all.replace(all.length() - 1, all.length(), "1").append(";most 1 have 1;least 1 have 1");
        C.due("all 8 others", Check.of(all.toString()).backs(8), 255);
        C.due("the last of 9", Check.of(all.toString()).backs(0), 256);
    }

    private static void givesOthers() {
        BackVillage v = Check.of("person 1;person 0;person 1;sees 1 0;sees 2 0");
        C.due("nobody without a law", v.gives(0), 0);
        Check.rule(v, "act 1 if theirs > 0");
        C.due("all others who SEE one", v.gives(0), 6);
        C.due("nobody who does not SEE one", v.gives(1), 0);
        v.turn(0, 0);
        C.due("others alone, also if one SEES oneself", v.gives(0) & 1, 0);
        C.due("who is SURE would be SURE then", v.gives(0), 6);
        BackVillage part = Check.of("values 3;person 1;person 0;sees 1 0");
        Check.rule(part, "act 1 if theirs > 0");
        C.due("not if two are POSSIBLE still", part.gives(0), 0);
        Check.rule(part, "act 1 if theirs > 0;act 1 if theirs > 1");
        C.due("if one alone is POSSIBLE", part.gives(0), 2);
        C.due("TREATED in private: nobody was", part.count(9), 0);
    }

    private static void neverOneself() {
        BackVillage v = Check.of("values 3;person 1;person 0;person 0;sees 1 0;sees 2 0");
        C.due("all who SEE one, without a law", v.never(0), 6);
        Check.rule(v, "act 1 if theirs > 1");
        C.due("SURE in a WORLD that is not THE WORLD", v.never(0), 0);
        C.due("not SURE in THE WORLD", v.gives(0), 0);
        Check.rule(v, "act 1 if theirs < 1 and who < 2");
        C.due("by one of both", v.never(0), 4);
        v.turn(0, 0);
        C.due("one oneself never", v.never(0), 6);
        C.due("whom nobody SEES", v.never(1), 0);
        BackVillage left = Check.of("values 3;person 1;person 0;sees 1 0;least 1 have 0;most 1 have 2;most 1 have 1");
        Check.rule(left, "act 1 if theirs > 1");
        C.due("in a WORLD LEFT", left.never(0), 0);
        left.query(1, 0, 2);
        Check.rule(left, "act 1 if theirs > 1");
        C.due("in no WORLD LEFT any more", left.never(0), 2);
        BackVillage sure = Check.of("person 1;person 0;person 0;sees 1 0;unlike 0 1;sees 0 1;sees 2 0");
        Check.rule(sure, "act 1 if theirs > 0");
        C.due("who is SURE in all WORLDS LEFT: all who SEE one", sure.never(0), 6);
    }

    private static void questionFirst() {
        BackVillage v = Check.of("person 0;person 1;person 0;unlike 0 1");
        v.turn(0, 0);
        v.turn(2, 0);
        C.due("PERSON 0 of its own, NOTICE 0", v.question(1), 0);
        BackVillage three = Check.of("values 3;person 2;person 2;person 0;alike 0 1");
        three.turn(2, 0);
        C.due("whom 2, whose 0, the NOTICE 2", three.question(1), 202);
        C.due("nor whose is that one: whose 1", three.question(0), 212);
        three.turn(0, 0);
        C.due("of several the first: whom and whose may be one", three.question(1), 2);
    }

    private static void questionNone() {
        BackVillage v = Check.of("person 1;person 0;sees 0 1");
        C.due("whose is not that one: none", v.question(1), -1);
        C.due("none", v.question(0), -1);
        v.turn(1, 1);
        C.due("none, if one is SURE", v.question(1), -1);
        C.due("none of one alone", Check.of("person 1").question(0), -1);
        BackVillage w = Check.of("person 1;person 0;person 1;unlike 0 1");
        w.turn(1, 1);
        w.turn(0, 0);
        C.due("none, if one is SURE, though there is a query", w.question(0), -1);
    }

    private static void queriesFewest() {
        BackVillage v = Check.of(ONE_OF_THREE + ";sees 0 1");
        v.turn(0, 0);
        C.due("one is too few", v.question(2), -1);
        C.due("2, both of PERSON 0", v.queries(2), 2);
        C.due("0, if one is SURE", v.queries(0), 0);
        v.read(0);
        C.due("1", v.queries(2), 1);
        BackVillage w = Check.of("person 1;person 0;sees 0 1");
        C.due("none: whose is not that one, also of two", w.queries(1), -1);
        C.due("none", w.queries(0), -1);
        BackVillage four = Check.of("person 0;person 0;person 0;person 1;least 1 have 1;most 1 have 1");
        for (int p = 0; p < 3; p++) {
            four.turn(p, p);
        }
        C.due("none, if three are needed", four.queries(3), -1);
        four.read(0);
        C.due("2, if one was READ OUT", four.queries(3), 2);
        C.due("nothing was QUERIED", four.count(9), 4);
        C.due("none of one alone", Check.of("person 1").queries(0), -1);
        // 2 is asked of 0, does not KNOW, and so rules out 100: then 0 KNOWS of 2 just where 1 has a 0
        BackVillage whose = Check.of("person 1;person 0;person 1;most 2 have 0;sees 0 1;sees 2 1");
        whose.turn(2, 2);
        C.due("2, the first of which must be of PERSON 0", whose.queries(1), 2);
        BackVillage least = Check.of("values 3;person 0;person 2;person 0;sees 1 0;most 2 have 0");
        least.turn(2, 2);
        C.due("2, the first of which must be of NOTICE 0", least.queries(0), 2);
    }

    private static void queriesMany() {
        BackVillage six = Check.of("person 1;".repeat(5) + "person 1;alike 0 5");
        C.due("6 PEOPLE: none", six.queries(0), -1);
        six.turn(4, 5);
        C.due("6 PEOPLE: 1", six.queries(0), 1);
        six.turn(0, 5);
        C.due("6 PEOPLE: 0", six.queries(0), 0);
        BackVillage seven = Check.of("person 1;".repeat(6) + "person 1;alike 0 1");
        C.due("-3 with more than 6 PEOPLE", seven.queries(0), -3);
        C.due("-3 with more than 6 PEOPLE, of the last", seven.queries(6), -3);
        C.due("-3 with 9", Check.of(NINE).queries(8), -3);
        seven.turn(6, 1);
        C.due("a QUESTION with more than 6", seven.question(0), 610);
    }

    private static void spillNotNow() {
        BackVillage v = Check.of("person 1;person 0;person 1;alike 0 2");
        C.due("who is SURE then", v.spill(0), 5);
        C.due("by another one", v.spill(1), 2);
        v.turn(2, 2);
        C.due("who is SURE now is not told", v.spill(0), 1);
        C.due("of the last", v.spill(2), 1);
        v.read(0);
        C.due("nobody by what is told already", v.spill(0), 0);
        BackVillage nine = Check.of(NINE);
        C.due("the last of 9 as bits", nine.spill(8), 256);
    }

    private static void quietNobody() {
        BackVillage v = Check.of("person 1;person 0;person 1;sees 0 1");
        C.due("nobody is quiet: each makes itself SURE", v.quiet(), 0);
        v.turn(0, 0);
        C.due("who is SURE, and tells nobody", v.quiet(), 1);
        v.turn(1, 1);
        v.turn(2, 2);
        C.due("all, if all are SURE", v.quiet(), 7);
        BackVillage nine = Check.of(NINE);
        nine.turn(8, 8);
        C.due("the last of 9", nine.quiet(), 256);
    }

    // ---- the game, steps, trials

    private static void gameNow() {
        BackVillage one = Check.of("person 1");
        C.due("nobody, if none is left to be READ OUT", one.game(0, false), 0);
        C.due("none, if there is none", one.game(0, true), -1);
        one.turn(0, 0);
        C.due("- 2, if one is SURE now: who wins", one.game(0, false), -2);
        C.due("- 2 both", one.game(0, true), -2);
        BackVillage v = Check.of("person 1;person 0;unlike 0 1");
        v.turn(1, 1);
        C.due("another one that is SURE is no matter", v.game(0, false), -1);
    }

    private static void gameBest() {
        BackVillage nobody = Check.of("person 1;person 0;person 1");
        C.due("0 nobody", nobody.game(1, false), 0);
        C.due("the least PERSON of others", nobody.game(1, true), 0);
        C.due("not oneself", nobody.game(0, true), 1);
        BackVillage two = Check.of("person 1;person 0;person 0;unlike 0 1");
        C.due("1 the first wins", two.game(0, false), 1);
        C.due("whom the first reads out best, not the least", two.game(0, true), 2);
        BackVillage lost = Check.of("person 1;person 1;alike 0 1");
        C.due("-1 the second", lost.game(0, false), -1);
        C.due("the least PERSON, though all lose", lost.game(0, true), 1);
        BackVillage all = Check.of("person 0;person 0;person 0;person 0;person 1;least 1 have 1;most 1 have 1");
        C.due("of four that must all be told the second reads the last", all.game(4, false), 1);
        C.due("the least of several good ones", all.game(4, true), 0);
        C.due("about one whose back 4 tells: three harmless ones", all.game(0, false), 1);
        C.due("not 4, who makes 0 SURE", all.game(0, true), 1);
        BackVillage three = Check.of("person 0;person 0;person 0;person 1;least 1 have 1;most 1 have 1");
        C.due("of three the first reads the last", three.game(3, false), -1);
        C.due("the least of several bad ones", three.game(3, true), 0);
        three.turn(3, 0);
        C.due("of two that matter and one that does not", three.game(3, false), -1);
    }

    private static void stepsFewest() {
        BackVillage v = Check.of("person 1;person 0;person 1;person 0;sees 0 1;sees 1 2;sees 0 2;sees 2 3");
        C.due("0: it is one", v.steps(3, 3), 0);
        C.due("1", v.steps(0, 1), 1);
        C.due("the fewest", v.steps(0, 3), 2);
        C.due("none: nobody SEES it", v.steps(3, 0), -1);
        C.due("none: against the sight", v.steps(2, 1), -1);
        v.turn(0, 0);
        C.due("0 also for one that SEES oneself", v.steps(0, 0), 0);
        BackVillage nine = Check.of(NINE);
        Check.tell(nine, "sees 8 7;sees 7 6;sees 6 5;sees 5 4;sees 4 3;sees 3 2;sees 2 1;sees 1 0");
        C.due("8 of 9", nine.steps(8, 0), 8);
        C.due("none of 9", nine.steps(0, 8), -1);
    }

    private static BackVillage strollers() {
        BackVillage v = Check.of("person 1;person 0;person 1;person 0;sees 0 1;sees 1 2;sees 2 3;sees 3 0");
        Check.rule(v, "act 1 if theirs > 0");
        return v;
    }

    private static void trialBounds() {
        BackVillage v = strollers();
        v.turn(2, 2);
        C.due("N 0: who is SURE now", v.trial(0), 4);
        C.due("N 30", v.trial(30) & 4, 4);
        C.dueThrow("N is none: -1", () -> v.trial(-1), ARGUMENT);
        C.dueThrow("N is none: 31", () -> v.trial(31), ARGUMENT);
        C.dueThrow("N is none: the greatest", () -> v.trial(Integer.MAX_VALUE), ARGUMENT);
        C.dueThrow("N is none: the least", () -> v.trial(Integer.MIN_VALUE), ARGUMENT);
    }

    private static void trialFromNow() {
        for (int n = 0; n <= 30; n++) {
            for (int seed : new int[] {1, 2, -7, Integer.MIN_VALUE}) {
                BackVillage v = strollers();
                v.seed(seed);
                int trial = v.trial(n);
                C.due("from now, once more", v.trial(n), trial);
                C.due("draws, too: nothing stays", v.seed(seed), seed);
                C.due("no ACT", v.count(10), 0);
                if (n > 0) {
                    v.stroll(n);
                }
                C.due("who is SURE behind it, by " + n + " from " + seed, v.count(8), trial);
            }
        }
    }

    private static void spanBounds() {
        BackVillage v = strollers();
        C.due("N 0", v.span(0, true), 0);
        C.due("N 30: all", v.span(30, true), 4);
        C.dueThrow("N is none: -1", () -> v.span(-1, false), ARGUMENT);
        C.dueThrow("N is none: 31", () -> v.span(31, true), ARGUMENT);
        C.dueThrow("N is none: the greatest", () -> v.span(Integer.MAX_VALUE, true), ARGUMENT);
        C.dueThrow("N is none: the least", () -> v.span(Integer.MIN_VALUE, false), ARGUMENT);
        v.turn(0, 0);
        C.due("N 0: as many as are SURE now", v.span(0, false), 1);
        for (int n = 1; n <= 30; n++) {
            spanBy(n);
        }
    }

    /** Of each SEED from 1 to 6 one case in which it alone has the fewest, and one in which it alone has the most. */
    private static void spanSeeds() {
        span("SEED 1", 5, 0, false, "person 1;person 1;sees 1 0");
        span("SEED 1", 2, 1, true, "person 0;person 1;person 0;sees 0 1");
        span("SEED 2", 4, 0, false, "person 0;person 1;person 0;sees 2 0;sees 2 1");
        span("SEED 2", 2, 2, true, "person 1;person 1;sees 1 0;sees 0 1");
        span("SEED 3", 4, 0, false, "person 0;person 0;sees 0 1");
        span("SEED 3", 3, 2, true, "person 1;person 1;person 1;sees 0 2;sees 0 1");
        span("SEED 4", 12, 0, false, "person 0;person 1;person 0;sees 0 1");
        span("SEED 4", 1, 1, true, "person 1;person 1;sees 1 0");
        span("SEED 5", 9, 0, false, "person 0;person 1;person 0;sees 1 2;sees 0 1");
        span("SEED 5", 1, 1, true, "person 1;person 1;person 0;sees 1 0");
        span("SEED 6", 10, 0, false, "person 1;person 1;person 0;sees 2 1");
        span("SEED 6", 1, 1, true, "person 1;person 1;person 0;person 0;sees 2 3");
    }

    private static void span(String what, int n, int want, boolean most, String text) {
        BackVillage v = Check.of(text);
        Check.rule(v, "act 1 if theirs > 0");
        C.due((most ? "the most" : "the fewest") + " by " + n + " from " + what + " alone", v.span(n, most), want);
    }

    private static void spanBy(int n) {
        int fewest = 9;
        int most = 0;
        for (int seed = 1; seed <= 6; seed++) {
            BackVillage v = strollers();
            v.seed(seed);
            v.stroll(n);
            fewest = Math.min(fewest, Integer.bitCount(v.count(8)));
            most = Math.max(most, Integer.bitCount(v.count(8)));
        }
        BackVillage v = strollers();
        v.seed(-3);
        C.due("from SEED 1, 2, .. 6, whatever SEED is: the fewest by " + n, v.span(n, false), fewest);
        C.due("from SEED 1, 2, .. 6, whatever SEED is: the most by " + n, v.span(n, true), most);
        C.due("nothing stays", v.seed(1), -3);
    }

    // ---- worlds and guesses

    private static void nthBounds() {
        BackVillage v = Check.of("values 3;person 2;person 0;sees 0 1;most 1 have 2");
        C.due("from 0 on: that is LEFT", v.nth(-1, 0), 0);
        C.due("by CODES: the last that is LEFT", v.nth(-1, 7), 7);
        C.due("NONE: as many as are LEFT", v.nth(-1, 8), -1);
        C.due("from 0 on: that one HOLDS", v.nth(0, 0), 0);
        C.due("the last that one HOLDS", v.nth(0, 2), 6);
        C.due("NONE: as many as one HOLDS", v.nth(0, 3), -1);
        for (int k : new int[] {-1, -2, 9, 512, Integer.MAX_VALUE, Integer.MIN_VALUE}) {
            C.due("NONE that is LEFT: " + k, v.nth(-1, k), -1);
            C.due("NONE that one HOLDS: " + k, v.nth(1, k), -1);
        }
        C.dueThrow("no such PERSON: -2", () -> v.nth(-2, 0), BOUNDS);
        C.dueThrow("no such PERSON, also for no such k", () -> v.nth(2, -1), BOUNDS);
        BackVillage nine = Check.of(NINE);
        C.due("the last of 512", nine.nth(-1, 511), 511);
        C.due("the last of 512 that one HOLDS", nine.nth(8, 511), 511);
        C.due("NONE behind 512", nine.nth(-1, 512), -1);
    }

    private static void guessLeast() {
        BackVillage one = Check.of("values 4;person 3");
        C.due("of several the least", one.guess(0), 0);
        one.query(0, 0, 3);
        C.due("a query of one that does not know tells nothing", one.guess(0), 0);
        one.turn(0, 0);
        C.due("the greatest, if one is SURE", one.guess(0), 3);
        BackVillage v = Check.of("values 4;person 3;person 3;least 1 have 3");
        C.due("in most WORLDS", v.guess(0), 3);
        v.turn(0, 1);
        C.due("of four in one WORLD each the least", v.guess(0), 0);
        BackVillage two = Check.of("values 3;person 1;person 1;most 1 have 0");
        // 01 02 10 11 12 20 21 22: 0 has a 1, and a 2, in three of them
        C.due("of two in three WORLDS each the less", two.guess(0), 1);
    }

    private static void rightAll() {
        BackVillage blind = Check.of("person 1;person 1");
        C.due("RIGHT where one has a 0", blind.right(0), 2);
        C.due("ALL RIGHT where all have a 0", blind.right(-1), 1);
        BackVillage v = Check.of(MUDDY);
        // 01 10 11: by sight of 0 one is SURE, by sight of 1 one guesses 0
        C.due("RIGHT in WORLDS LEFT", v.right(0), 2);
        C.due("ALL RIGHT", v.right(-1), 2);
        v.day();
        C.due("RIGHT, if all are SURE", v.right(1), 1);
        C.due("ALL RIGHT, if all are SURE", v.right(-1), 1);
        BackVillage first = Check.of("person 1;person 1;sees 1 0;least 1 have 1");
        C.due("of the blind one: 1 in two of three", first.right(0), 2);
        C.due("of the one who SEES: SURE in 01, 0 in 10", first.right(1), 2);
        C.due("of both: 10 alone", first.right(-1), 1);
        BackVillage nine = Check.of(NINE);
        C.due("RIGHT of 512", nine.right(8), 256);
        C.due("ALL RIGHT of 512", nine.right(-1), 1);
        BackVillage misled = Check.of("values 3;person 0;person 0;person 0;sees 0 1;sees 1 2");
        Check.rule(misled, "act 1 if sure;act 1 if theirs > 0");
        misled.treat(0, 1, false);
        misled.treat(1, 2, false);
        // 1 by sureness or by sight of a 1 or a 2: of 15 WORLDS that 2 HOLDS, 3 have a 0, 6 a 1, 6 a 2
        C.due("a GUESS that is not right in THE WORLD", misled.guess(2), 1);
        C.due("RIGHT, but not in the WORLD of CODE 0", misled.right(2), 15);
        C.due("RIGHT of whom it was told by", misled.right(1), 18);
        C.due("ALL RIGHT, but not in the WORLD of CODE 0", misled.right(-1), 3);
    }

    // ---- rows, liars, marriages

    private static int rows(BackVillage v, String told, int k) {
        Check.tape(v, told);
        return v.rows(k);
    }

    private static void rowsMost() {
        C.due("1 order without PEOPLE", rows(new BackVillage(), "", -1), 1);
        C.due("none in it", rows(new BackVillage(), "", 0), -1);
        BackVillage one = Check.of("person 1");
        C.due("1 order of one", rows(one, "", -1), 1);
        C.due("the last one of one", rows(one, "", 0), 0);
        BackVillage seven = Check.of("person 1;".repeat(6) + "person 1");
        C.due("at most 7: all orders", rows(seven, "", -1), 5040);
        C.due("at most 7: the first PERSON ahead of all", rows(seven, "ba\1ca\1da\1ea\1fa\1ga\1", 6), 0);
        BackVillage eight = Check.of("person 1;".repeat(7) + "person 1");
        C.due("8: -3", rows(eight, "", -1), -3);
        C.due("8: -3 of a place", rows(eight, "ab\1", 0), -3);
        C.due("9: -3", rows(Check.of(NINE), "", 8), -3);
        C.dueThrow("8, and the TAPE is not that", () -> rows(eight, "ai\1", 0), ARGUMENT);
        C.dueThrow("8, and k is below NONE", () -> rows(eight, "", -2), ARGUMENT);
        // 133 pairs of three bytes fill the TAPE but for one byte
        C.due("133 pairs", rows(seven, "ab\1".repeat(133), -1), 2520);
        C.dueThrow("a full TAPE is no row of threes", () -> rows(seven, "ab\1".repeat(133) + "a", -1), ARGUMENT);
    }

    private static void rowsPlaces() {
        BackVillage v = Check.of("person 1;person 0;person 1;person 1");
        C.due("none may be told", rows(v, "", -1), 24);
        C.due("0 the last one, who SEES all others", rows(v, "dc\1cb\1ba\1", 0), 3);
        C.due("who is ahead of all", rows(v, "dc\1cb\1ba\1", 3), 0);
        C.due("none: as many as there are", rows(v, "", 4), -1);
        C.due("none: the greatest k", rows(v, "", Integer.MAX_VALUE), -1);
        C.dueThrow("k is below NONE: -2", () -> rows(v, "", -2), ARGUMENT);
        C.dueThrow("k is below NONE: the least", () -> rows(v, "", Integer.MIN_VALUE), ARGUMENT);
        C.due("no order at all", rows(v, "ab\1bc\1ca\1", -1), 0);
        C.due("none in no order, though one could be the last", rows(v, "bc\1cd\1db\1", 0), -1);
        C.due("none in no order, though two could stand", rows(v, "cd\1dc\1ab\1", 1), -1);
        C.due("must not SEE is that the other one does", rows(v, "ab\0bc\0cd\0", 0), 3);
        C.due("must, and must not", rows(v, "ab\1ab\0", -1), 0);
        int[] first = {1, 0, 2, 3};
        for (int k = 0; k < 4; k++) {
            C.due("the first such order by numbers: " + k, rows(v, "ba\1", k), first[k]);
        }
    }

    private static void rowsTape() {
        BackVillage v = Check.of("person 1;person 0");
        for (String tape : new String[] {"a", "ab", "ab\1a", "ab\1ab", "aa\1", "bb\0", "ac\1", "ca\0", "`b\1", "a`\1",
            "ab\2", "ab1", "ab\u00ff", "AB\1", "\0\1\1", "ab\1ac\1", "ab\1bb\1", "a\u00e2\1"}) {
            C.dueThrow("the TAPE is not that: " + tape, () -> rows(v, tape, -1), ARGUMENT);
            C.due("and is used up", v.end(1), false);
        }
        C.due("1 must", rows(v, "ab\1", 0), 0);
        C.due("0 must not", rows(v, "ab\0", 0), 1);
        C.dueThrow("no pair of nobody", () -> rows(new BackVillage(), "ab\1", -1), ARGUMENT);
    }

    private static int liars(BackVillage v, String told, int k, boolean who) {
        Check.tape(v, told);
        return v.liars(k, who);
    }

    private static void liarsBounds() {
        BackVillage v = Check.of("person 1;person 0");
        C.dueThrow("K is not 0 to 9: -1", () -> liars(v, "ab\1", -1, false), ARGUMENT);
        C.dueThrow("K is not 0 to 9: 10", () -> liars(v, "ab\1", 10, true), ARGUMENT);
        C.dueThrow("K is not 0 to 9: the greatest", () -> liars(v, "", Integer.MAX_VALUE, true), ARGUMENT);
        C.dueThrow("K is not 0 to 9: the least", () -> liars(v, "", Integer.MIN_VALUE, false), ARGUMENT);
        C.due("K 0: nobody lied", liars(v, "ab\1", 0, false), 2);
        C.due("K 0: who lied", liars(v, "ab\1", 0, true), 0);
        C.due("K 9", liars(v, "ab\1", 9, false), 4);
        C.due("none may be told", liars(v, "", 0, false), 4);
        C.due("none may be told, who", liars(v, "", 9, true), 0);
        BackVillage nine = Check.of(NINE);
        StringBuilder all = new StringBuilder();
        for (char p = 'a'; p <= 'i'; p++) {
            all.append(p).append("a\0");
        }
        C.due("9 said what is not so: not by 8", liars(nine, all.toString(), 8, false), 256);
        C.due("9 said what is not so: by 9", liars(nine, all.toString(), 9, false), 512);
        C.due("9 said what is not so: who", liars(nine, all.toString(), 9, true), 511);
        C.due("133 of three bytes", liars(nine, "ab\1".repeat(133), 1, true), 1);
    }

    private static void liarsCounted() {
        BackVillage v = Check.of("person 1;person 0;person 1");
        C.due("told more than once: counted once", liars(v, "ab\1ac\1", 1, false), 8);
        C.due("if one of it is not so", liars(v, "ab\1ac\1", 0, false), 2);
        C.due("told the same twice", liars(v, "ab\1ab\1", 0, false), 4);
        C.due("told both: lied in any case", liars(v, "ab\1ab\0", 0, false), 0);
        C.due("told both: who", liars(v, "ab\1ab\0", 1, true), 1);
        C.due("of oneself", liars(v, "bb\0", 0, false), 4);
        v.read(0);
        C.due("WORLDS LEFT alone", liars(v, "", 0, false), 4);
        C.due("who lied in some such WORLD LEFT", liars(v, "ba\1ca\0", 1, true), 4);
        C.due("in none such WORLD", liars(v, "ba\1ca\0", 0, true), 0);
    }

    private static void liarsTape() {
        BackVillage v = Check.of("values 3;person 1;person 0");
        for (String tape : new String[] {"a", "ab", "ab\1a", "ab\1ab", "ac\1", "ca\0", "`b\1", "a`\1", "ab\3", "ab0",
            "ab\u00ff", "AB\1", "\0\1\1", "ab\1ac\1", "a\u00e2\1"}) {
            C.dueThrow("the TAPE is not that: " + tape, () -> liars(v, tape, 1, true), ARGUMENT);
            C.due("and is used up", v.end(1), false);
        }
        C.due("the greatest NOTICE", liars(v, "ab\2", 0, false), 3);
        C.due("the least NOTICE", liars(v, "ba\0", 0, false), 3);
        C.dueThrow("of nobody", () -> liars(new BackVillage(), "aa\0", 0, false), ARGUMENT);
    }

    private static void marriedFirst() {
        BackVillage v = Check.of("person 1;person 0;person 1;sees 0 1;sees 1 0;sees 0 2;sees 2 0;sees 1 2;sees 2 1");
        C.due("nobody twice: one pair of three", v.married(-1), 1);
        C.due("PERSON 0 with the least that can be", v.married(0), 1);
        C.due("the other one with it", v.married(1), 0);
        C.due("none", v.married(2), -1);
        BackVillage gives = Check.of("person 1;person 0;person 1;person 0;sees 0 1;sees 1 0;sees 0 2;sees 2 0;sees 1 3;"
            + "sees 3 1");
        C.due("the most at once", gives.married(-1), 2);
        C.due("not the least, which would be one pair alone", gives.married(0), 2);
        C.due("1 with 3", gives.married(1), 3);
        BackVillage first = Check.of("person 1;person 0;person 1;person 0;person 1;sees 0 1;sees 1 0;sees 0 3;sees 3 0");
        Check.tell(first, "sees 2 3;sees 3 2;sees 2 4;sees 4 2");
        C.due("two at once", first.married(-1), 2);
        C.due("then 1, ..: 2 with the least that is not married yet", first.married(2), 3);
        C.due("none for the last", first.married(4), -1);
        BackVillage alone = Check.of("person 1;person 0;person 1;sees 1 2;sees 2 1");
        rows(alone, "", -1);
        C.due("one pair, without PERSON 0", alone.married(-1), 1);
        C.due("none for PERSON 0", alone.married(0), -1);
        C.due("1 with 2", alone.married(1), 2);
        BackVillage half = Check.of("person 1;person 0;sees 0 1");
        rows(half, "", -1);
        C.due("each of whom KNOWS the other's", half.married(-1), 0);
        C.due("none of whom one KNOWS alone", half.married(0), -1);
        BackVillage one = Check.of("person 1");
        rows(one, "", -1);
        C.due("of one alone", one.married(-1), 0);
        C.due("none of one alone", one.married(0), -1);
        BackVillage nine = Check.of(NINE);
        for (int p = 0; p < 9; p++) {
            nine.read(p);
        }
        C.due("4 pairs of 9", nine.married(-1), 4);
        C.due("the last one is left", nine.married(8), -1);
        C.due("7 with 6", nine.married(7), 6);
    }

    private static void widestLeast() {
        BackVillage v = Check.of("person 1;person 0;person 1;sees 0 1");
        C.due("who HOLDS most, of several the least", v.widest(), 1);
        v.turn(1, 0);
        C.due("the last", v.widest(), 2);
        v.turn(2, 0);
        C.due("of all alike the least", v.widest(), 0);
        C.due("of one", Check.of("person 1").widest(), 0);
        BackVillage none = new BackVillage();
        C.due("NONE without PEOPLE", none.widest(), -1);
    }

    private static void underLeast() {
        BackVillage v = Check.of("values 3;person 1;person 0;person 1;sees 1 0;sees 2 0");
        C.due("the fewest, of several the least", v.under(), 1);
        v.turn(2, 2);
        C.due("one's own count, too", v.under(), 2);
        v.turn(0, 1);
        v.turn(0, 2);
        C.due("of two alike the least", v.under(), 0);
        C.due("of one", Check.of("person 1").under(), 0);
        BackVillage none = new BackVillage();
        C.due("NONE without PEOPLE", none.under(), -1);
    }
}
