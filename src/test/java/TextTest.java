/** Promises 1 to 6: a new object, the tape, texts of the village and of the law, and their first wrong bytes. */
public final class TextTest {
    private static final Check C = new Check("TextTest");
    private static final Class<IllegalArgumentException> WRONG = IllegalArgumentException.class;
    private static final String TWO = "person 1;person 0";

    public static void main(String[] args) {
        newObject();
        feed();
        end();
        village();
        villageLimits();
        villageClosed();
        villageFaults();
        villageFalse();
        law();
        lawFaults();
        lawDeep();
        fault();
        C.finish();
    }

    private static void newObject() {
        BackVillage v = new BackVillage();
        C.due("NONE", BackVillage.NONE, -1);
        int[] counts = {0, 2, 0, -1, 0, 1, 1, 0, 0, 0, 0};
        for (int i = 0; i < counts.length; i++) {
            C.due("new: count " + i, v.count(i), counts[i]);
        }
        C.due("new: fault", v.fault(), -1);
        C.due("new: seed", v.seed(4), 1);
        C.due("new: left(0)", v.left(0), true);
        C.dueThrow("new: left(1)", () -> v.left(1), IndexOutOfBoundsException.class);
        C.dueThrow("new: person(0, 0)", () -> v.person(0, 0), IndexOutOfBoundsException.class);
        C.due("new: end(0)", v.end(0), true);
        C.due("new: end(1)", v.end(1), false);
        C.due("new: undo", v.undo(), false);
        C.due("new: back", v.back(), false);
        C.due("new: log", v.log(0, 0), -1);
    }

    private static void feed() {
        BackVillage v = new BackVillage();
        for (int i = 1; i <= 20; i++) {
            C.due("feed no. " + i, v.feed(i, i, i, i, i), 20 * i);
        }
        C.due("feed beyond 400", v.feed(1, 1, 1, 1, 1), -1);
        C.due("nothing came of it", v.end(401), false);
        C.due("all 400 are there", v.end(400), true);
        v.end(381);
        C.due("feed with 19 bytes of room", v.feed(1, 1, 1, 1, 1), -1);
        v.end(380);
        C.due("feed with 20 bytes of room", v.feed(1, 1, 1, 1, 1), 400);
        BackVillage w = new BackVillage();
        // the highest byte of each number first: "person 1;person 0;se", then "es 0 1"
        w.feed(0x70657273, 0x6f6e2031, 0x3b706572, 0x736f6e20, 0x303b7365);
        w.feed(0x65732030, 0x20310000, 0, 0, 0);
        w.end(26);
        C.due("bytes in their order", w.village(), 1);
        C.due("people of the bytes", w.count(0), 2);
        C.due("notices of the bytes", w.count(7), 2);
        C.due("sight of the bytes", w.person(0, 1), 2);
        BackVillage x = new BackVillage();
        x.feed(0xffffffff, 0x80000000, 0, 0, 0);
        C.dueThrow("bytes above 127", x::village, WRONG);
        C.due("a byte of 255 is wrong", x.fault(), 0);
    }

    private static void end() {
        BackVillage v = new BackVillage();
        v.feed(0, 0, 0, 0, 0);
        C.due("end(-1)", v.end(-1), false);
        C.due("end(21)", v.end(21), false);
        C.due("end(20)", v.end(20), true);
        C.due("end(7)", v.end(7), true);
        C.due("end(8) behind end(7)", v.end(8), false);
        C.due("feed behind end(7)", v.feed(0, 0, 0, 0, 0), 27);
        C.due("end(0)", v.end(0), true);
        C.due("feed behind end(0)", v.feed(0, 0, 0, 0, 0), 20);
        C.dueThrow("a text of zeros", v::village, WRONG);
        C.due("the tape was used up by a wrong text", v.end(1), false);
        Check.tape(v, "act 1");
        v.law();
        C.due("the tape was used up by a law", v.end(1), false);
    }

    private static void village() {
        BackVillage v = new BackVillage();
        C.due("first text", Check.tell(v, "values 3;person 2;person 0;person 1"), 1);
        C.due("values", v.count(1), 3);
        C.due("worlds", v.count(5), 27);
        C.due("code of the world", v.count(7), 2 * 9 + 1);
        C.due("second text", Check.tell(v, "  sees 0 1 ; sees0 2;sees 2   0  "), 2);
        C.due("whom 0 sees", v.person(0, 1), 6);
        C.due("whom 1 sees", v.person(1, 1), 0);
        C.due("whom 2 sees", v.person(2, 1), 1);
        C.due("least", Check.tell(v, "least 1 have 2"), 3);
        C.due("left behind least", v.count(6), 27 - 8);
        C.due("most", Check.tell(v, "most 1 have 0"), 4);
        // at least one 2 and at most one 0: 27 - 8 - 3 (002, 020, 200)
        C.due("left behind most", v.count(6), 16);
        C.due("unlike", Check.tell(v, "unlike 0 1"), 5);
        // a unlike b: of 02 20 12 21 (a 2 is there) with c free but for a second 0: 2, 2, 3, 3; 01 10 with c = 2: 2
        C.due("left behind unlike", v.count(6), 12);
        C.due("an empty text", Check.tell(v, ""), 6);
        C.due("a text of blanks", Check.tell(v, "     "), 7);
        C.due("texts", v.count(2), 7);
        BackVillage a = Check.of("person 1;person 1;person 0;alike 0 1");
        C.due("left behind alike", a.count(6), 4);
        C.due("alike: 010 is left no more", a.left(2), false);
        C.due("alike: 001 is left", a.left(1), true);
        BackVillage n = Check.of("values 4;values 2;values 3");
        C.due("values told anew", n.count(1), 3);
        C.due("values later on", Check.tell(n, "values 4;person 3"), 2);
        C.due("world of base 4", n.count(7), 3);
        BackVillage z = Check.of("person 1;least 0 have 0;most 9 have 1;least 1 have 1;most 0 have 0");
        C.due("least 0, most 9", z.count(6), 1);
        C.due("numbers of 3 digits", Check.tell(z, "least 001 have 001"), 2);
    }

    private static void villageLimits() {
        BackVillage v = new BackVillage();
        for (int i = 1; i <= 12; i++) {
            C.due("text no. " + i, Check.tell(v, i == 1 ? TWO : ""), i);
        }
        C.dueThrow("a 13th text", () -> Check.tell(v, "sees 0 1"), UnsupportedOperationException.class);
        C.due("a refused text has no fault", v.fault(), -1);
        C.due("a refused text does nothing", v.person(0, 1), 0);
        C.due("still 12 texts", v.count(2), 12);
        C.dueThrow("a wrong 13th text", () -> Check.tell(v, "sees 0 0"), WRONG);
        C.due("fault of a wrong 13th text", v.fault(), 7);
        C.due("a refused text closes nothing", Check.of(TWO).count(2), 1);
        Check.rule(v, "act 1");
        C.due("a law is no text of the village", v.count(2), 12);
        String person = "person 1;";
        BackVillage nine = Check.of(person.repeat(8) + "person 1");
        C.due("9 people of 2 notices", nine.count(0), 9);
        C.due("their worlds", nine.count(5), 512);
        fault("a 10th of 2", person.repeat(10), 81);
        fault("a 6th of 3", "values 3;" + person.repeat(6), 9 + 45);
        fault("a 5th of 4", "values 4;" + person.repeat(5), 9 + 36);
        C.due("5 of 3", Check.of("values 3;" + person.repeat(4) + "person 2").count(5), 243);
        C.due("4 of 4", Check.of("values 4;" + person.repeat(3) + "person 3").count(5), 256);
        String line = "least 0 have 0;";
        C.due("14 lines", Check.of(line.repeat(13) + "most 9 have 1").count(2), 1);
        fault("a 15th line", line.repeat(14) + " most 9 have 1", 14 * 15 + 1);
        fault("a 15th line that is missing", line.repeat(14) + " ", 14 * 15 + 1);
    }

    private static void villageClosed() {
        String[] lines = {"sees 0 1", "least 0 have 0", "most 9 have 0", "unlike 0 1"};
        for (String line : lines) {
            fault("person behind " + line, TWO + ";" + line + ";person 0", 19 + line.length());
            BackVillage v = Check.of(TWO + ";" + line);
            fault(v, "person in a later text behind " + line, " person 1", 1);
        }
        fault("values behind least", "least 0 have 0;values 2", 15);
        fault("values behind people", "person 1;values 2", 9);
        BackVillage l = Check.of(TWO);
        Check.rule(l, "act 1");
        C.due("a law closes nothing", Check.tell(l, "person 1"), 2);
        C.dueThrow("a wrong line closes nothing", () -> Check.tell(l, "sees 0 1;sees 1 1"), WRONG);
        C.due("behind a wrong line", Check.tell(l, "person 1"), 3);
        BackVillage acted = Check.of(TWO);
        acted.ask(0);
        fault(acted, "person behind an act", "person 1", 0);
        acted.undo();
        fault(acted, "person behind an undone act", "person 1", 0);
        BackVillage none = new BackVillage();
        none.day();
        fault(none, "values behind a day", "values 3", 0);
        BackVillage strolled = new BackVillage();
        strolled.stroll(3);
        fault(strolled, "person behind a stroll of nobody", ";", 0);
        fault(strolled, "person behind a stroll", "person 1", 0);
        BackVillage image = new BackVillage();
        image.image();
        image.day();
        image.back();
        C.due("behind going back nothing was done", Check.tell(image, "values 3;person 2"), 1);
    }

    private static void villageFaults() {
        fault("no word", "1", 0);
        fault("an unknown word", "value 2", 0);
        fault("a word of the law", " act 1", 1);
        fault("a word within a line", "have 1", 0);
        fault("a word that goes on", "valuess 2", 0);
        fault("a word with another first letter", "xalues 2", 0);
        fault("a word with another last letter", "valuet 2", 0);
        fault("a word that goes on with z", "personz 1", 0);
        fault("a word that goes on with a", "persona 1", 0);
        fault("half a word", "perso 1", 0);
        fault("a word with a sign behind", "person{ 1", 6);
        fault("a word with a sign ahead", "`person 1", 0);
        fault("a number with a : behind", "person 1:", 8);
        fault("a number with a / behind", "person 1/", 8);
        fault("an upper letter", "Values 2", 0);
        fault("a tab", "values\t2", 6);
        fault("a byte of 0", "values 2\u0000", 8);
        fault("a byte of 2", "values \u0002", 7);
        fault("values without", "values", 6);
        fault("values without, blanks behind", "values   ", 9);
        fault("values 1", "values 1", 7);
        fault("values 5", "values 5", 7);
        fault("four digits", "values 0002", 7);
        fault("a word for a number", "values two", 7);
        fault("a sign of less", "values -2", 7);
        fault("two numbers", "values 2 2", 9);
        fault("no line behind ;", "values 2;", 9);
        fault("no line behind ; and blanks", "values 2 ;  ", 12);
        fault("; alone", ";", 0);
        fault("two ;", "values 2;;person 0", 9);
        fault("person 2 of 2", "person 2", 7);
        fault("person of no number", "person;", 6);
        fault("sees of nobody", TWO + ";sees 2 0", 23);
        fault("sees nobody", TWO + ";sees 0 2", 25);
        fault("sees oneself", TWO + ";sees 1 1", 25);
        fault("sees one", TWO + ";sees 1", 24);
        fault("sees one, and the next line", TWO + ";sees 1;sees 0 1", 24);
        fault("sees without people", "sees 0 1", 5);
        fault("alike oneself", TWO + ";alike 0 0", 26);
        fault("unlike nobody", TWO + ";unlike 0 9", 27);
        fault("least 10", TWO + ";least 10 have 1", 24);
        fault("least of no notice", TWO + ";least 1 have 2", 31);
        fault("least without have", TWO + ";least 1 1", 26);
        fault("most have with a word behind", TWO + ";most 1 haven 1", 25);
        fault("a name behind a line", TWO + ";most 1 have 1 x", 32);
        fault("numbers in one", TWO + ";sees 01", 25);
        fault("two faults: the first", "person 0;person 7;values 9", 16);
    }

    /** A line that is not so in THE WORLD is wrong at its first word, but only if all of it can stand there. */
    private static void villageFalse() {
        fault("least that is not so", TWO + "; least 2 have 1", 19);
        fault("most that is not so", TWO + ";most 0 have 1", 18);
        fault("alike that is not so", TWO + ";alike 0 1", 18);
        fault("unlike that is not so", "person 1;person 1;unlike 1 0;;", 18);
        fault("least that is not so, with a fault", TWO + ";least 2 have 7", 31);
        BackVillage v = Check.of(TWO);
        fault(v, "a wrong text at its second line", "sees 0 1;least 2 have 1", 9);
        C.due("of a wrong text nothing stays", v.person(0, 1), 0);
        fault(v, "a wrong text at its last line", "person 1;person 1;least 0 have 0;x", 33);
        C.due("of a wrong text no person stays", v.count(0), 2);
        C.due("of a wrong text no world goes", v.count(6), 4);
        C.due("texts behind wrong ones", v.count(2), 1);
    }

    private static void law() {
        BackVillage v = Check.of(TWO + ";sees 0 1;sees 1 0");
        C.due("no law", v.count(3), -1);
        C.due("manner without a law", v.manner(0, 1, 2), 0);
        C.due("an empty law", Check.rule(v, ""), 0);
        C.due("lines of an empty law", v.count(3), 0);
        C.due("manner of an empty law", v.manner(0, 1, 2), 0);
        C.due("a law", Check.rule(v, "act 5;act 7 if theirs<1 ;act 999 if theirs > 0"), 3);
        C.due("lines", v.count(3), 3);
        C.due("manner in 10", v.manner(0, 1, 2), 12);
        C.due("manner in 11", v.manner(0, 1, 3), 1004);
        C.due("manner of 1", v.manner(1, 0, 2), 1004);
        manner(v, "act 1 if who<1;act 2 if whom<1;act 4 if who+whom>0;act 8 if who + whom + 2 > 3", 0, 1, 1 + 4);
        manner(v, "act 1 if who<1;act 2 if whom<1;act 4 if who+whom>0;act 8 if 1+who < whom+2", 1, 0, 2 + 4);
        manner(v, "act 1 if seen;act 2 if sure;act 4 if not seen;act 8 if not sure", 0, 1, 9);
        manner(v, "act 1 if sure or seen and sure;act 2 if (sure or seen) and seen", 0, 1, 2);
        manner(v, "act 1 if seen or seen and sure;act 2 if (seen or seen) and sure", 0, 1, 1);
        manner(v, "act 1 if not sure and not sure;act 2 if not (sure or seen)", 0, 1, 1);
        manner(v, "act 1 if day<1;act 2 if day>0", 0, 1, 1);
        v.day();
        manner(v, "act 1 if day<1;act 2 if day>0;act 4 if day+day+1>2", 0, 1, 6);
        manner(v, "act 0;act 999;act 999 if 999>998;act 1 if 001<001", 0, 1, 1998);
        manner(v, "act1if(0<1)and not(1<0)", 0, 1, 1);
        C.due("12 lines", Check.rule(v, "act 1;".repeat(11) + "act 1"), 12);
        C.due("a law in place of the one before", v.manner(0, 1, 2), 12);
        C.dueThrow("a wrong law", () -> Check.rule(v, "act 2;act"), WRONG);
        C.due("the law before stays", v.manner(0, 1, 2), 12);
        BackVillage one = Check.of("person 1;person 1;sees 0 1");
        manner(one, "act 1 if seen;act 2 if not seen", 0, 1, 2);
        one.turn(0, 0);
        manner(one, "act 1 if sure;act 2 if not sure", 0, 1, 1);
    }

    private static void manner(BackVillage v, String law, int who, int whom, int want) {
        Check.rule(v, law);
        C.due("manner of " + law, v.manner(who, whom, v.count(7)), want);
    }

    private static void lawFaults() {
        lawFault("no act", "if sure", 0);
        lawFault("an unknown word", " acts 1", 1);
        lawFault("act without a number", "act", 3);
        lawFault("act without a number, blanks", "act  ", 5);
        lawFault("act 1000", "act 1000", 4);
        lawFault("act and a word", "act sure", 4);
        lawFault("a word behind", "act 1 or sure", 6);
        lawFault("a word that goes on", "act 1 iff sure", 6);
        lawFault("no condition", "act 1 if", 8);
        lawFault("no condition, a line behind", "act 1 if ;act 2", 9);
        lawFault("a sum alone", "act 1 if theirs", 15);
        lawFault("a sum alone, a line behind", "act 1 if theirs ; act 1", 16);
        lawFault("half a comparison", "act 1 if theirs <", 17);
        lawFault("two signs", "act 1 if theirs < < 1", 18);
        lawFault("an equality", "act 1 if theirs = 1", 16);
        lawFault("three in a row", "act 1 if 1 < 2 < 3", 15);
        lawFault("a sum that ends", "act 1 if 1 + < 2", 13);
        lawFault("a sum that ends at the text's end", "act 1 if 1 < 2 + ", 17);
        lawFault("sure in a sum", "act 1 if 1 + sure < 2", 13);
        lawFault("sure compared", "act 1 if sure < 2", 14);
        lawFault("a number of four digits", "act 1 if theirs < 0001", 18);
        lawFault("and without", "act 1 if sure and", 17);
        lawFault("or and and", "act 1 if sure or and", 17);
        lawFault("not without", "act 1 if not", 12);
        lawFault("no )", "act 1 if (sure", 14);
        lawFault("no ) but a line", "act 1 if (sure;act 1", 14);
        lawFault("a ) too many", "act 1 if (sure))", 15);
        lawFault("() ", "act 1 if ()", 10);
        lawFault("(theirs) < 1", "act 1 if (theirs) < 1", 16);
        lawFault("no line behind ;", "act 1; ", 7);
        lawFault("a word of the village", "act 1 if have", 9);
        lawFault("no blank between words", "act 1 if notsure", 9);
        lawFault("a byte of 1", "act 1 if \u0001 < 2", 9);
        lawFault("a 13th line", "act 1;".repeat(12) + "act 1", 72);
        lawFault("a 13th line that is missing", "act 1;".repeat(12), 72);
    }

    private static void lawDeep() {
        BackVillage v = Check.of("person 1;person 1;sees 0 1;sees 1 0");
        manner(v, "act 1 if not not not not not not seen", 0, 1, 1);
        manner(v, "act 1 if ((((((sure or seen))))))", 0, 1, 1);
        manner(v, "act 1 if not (not (not (seen))) or seen and (not not not (not sure))", 0, 1, 0);
        manner(v, "act 1 if not sure and not sure and not sure and not sure and not sure and not sure and not sure", 0, 1, 1);
        lawFault("a 7th not", "act 1 if " + "not ".repeat(7) + "sure", 9 + 24);
        lawFault("a 7th (", "act 1 if " + "(".repeat(7), 9 + 6);
        lawFault("a 7th of both", "act 1 if (not (not (not (sure", 9 + 15);
        lawFault("a 7th behind a whole atom", "act 1 if (((((not sure and not (", 9 + 22);
        Check.rule(v, "act 1 if (((((not sure and not sure)))))");
        C.due("6 deep, twice", v.manner(0, 1, 3), 1);
    }

    private static void fault() {
        BackVillage v = new BackVillage();
        C.due("fault ahead of any text", v.fault(), -1);
        fault(v, "a wrong text", "person 0;x", 9);
        C.due("fault stays", v.fault(), 9);
        Check.tell(v, "person 0");
        C.due("fault of a right text", v.fault(), -1);
        C.dueThrow("a wrong law", () -> Check.rule(v, "act"), WRONG);
        C.due("fault of a wrong law", v.fault(), 3);
        v.image();
        Check.rule(v, "");
        C.due("fault of a right law", v.fault(), -1);
        fault(v, "a wrong text", "x", 0);
        v.back();
        C.due("fault is not gone back to", v.fault(), 0);
        Check.tape(v, "x");
        C.dueThrow("rows of a wrong tape", () -> v.rows(0), WRONG);
        C.due("rows read no text", v.fault(), 0);
    }

    private static void fault(String what, String text, int want) {
        fault(new BackVillage(), what, text, want);
    }

    private static void fault(BackVillage v, String what, String text, int want) {
        C.dueThrow(what, () -> Check.tell(v, text), WRONG);
        C.due("fault of " + what, v.fault(), want);
    }

    private static void lawFault(String what, String text, int want) {
        BackVillage v = new BackVillage();
        C.dueThrow(what, () -> Check.rule(v, text), WRONG);
        C.due("fault of " + what, v.fault(), want);
    }
}
