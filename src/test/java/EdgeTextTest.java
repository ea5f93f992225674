/**
 * What the document's Terms and promises 1 to 6 say of boundary cases of the tape and of texts: a test for each such
 * sentence, which tells the sentence ahead of its case.
 */
public final class EdgeTextTest {
    private static final Check C = new Check("EdgeTextTest");
    private static final Class<IllegalArgumentException> WRONG = IllegalArgumentException.class;
    private static final Class<UnsupportedOperationException> FULL = UnsupportedOperationException.class;
    private static final Class<IndexOutOfBoundsException> BOUNDS = IndexOutOfBoundsException.class;
    private static final String THREE = "person 1;person 0;person 1;";
    private static final String[] LINES = {"values 3", "person 1", "sees 0 1", "least 1 have 1", "most 2 have 1",
        "alike 0 2", "unlike 0 1"};

    public static void main(String[] args) {
        valuesBounds();
        worldsBounds();
        codes();
        atFirst();
        mostTexts();
        mostVillageLines();
        mostLawLines();
        twoThatAreOne();
        thereByThen();
        noticesOfLines();
        countsOfLines();
        valuesAheadOfPeople();
        closedByLines();
        closedByActs();
        notClosed();
        falseLines();
        digits();
        wordsGoOn();
        blanks();
        noLine();
        deep();
        mustCome();
        cannotStand();
        wrongTextLeavesNothing();
        mannersOfLaws();
        feedBounds();
        feedBytes();
        endBounds();
        usedUp();
        faults();
        nobody();
        C.finish();
    }

    private static void wrong(String what, String text, int at) {
        wrong(new BackVillage(), what, text, at);
    }

    private static void wrong(BackVillage v, String what, String text, int at) {
        C.dueThrow(what, () -> Check.tell(v, text), WRONG);
        C.due("first wrong byte: " + what, v.fault(), at);
    }

    private static void wrongLaw(String what, String text, int at) {
        BackVillage v = new BackVillage();
        C.dueThrow(what, () -> Check.rule(v, text), WRONG);
        C.due("first wrong byte: " + what, v.fault(), at);
    }

    private static void right(String what, String text) {
        BackVillage v = new BackVillage();
        C.due(what, Check.tell(v, text), 1);
        C.due("no wrong byte: " + what, v.fault(), -1);
    }

    private static void rightLaw(String what, String text, int lines) {
        BackVillage v = new BackVillage();
        C.due(what, Check.rule(v, text), lines);
        C.due("no wrong byte: " + what, v.fault(), -1);
    }

    // ---- Terms

    private static void valuesBounds() {
        C.due("2 at first", new BackVillage().count(1), 2);
        for (int v = 2; v <= 4; v++) {
            C.due("V 2 to 4: " + v, Check.of("values " + v).count(1), v);
        }
        wrong("V 2 to 4: 1", "values 1", 7);
        wrong("V 2 to 4: 5", "values 5", 7);
        wrong("V 2 to 4: 0", "values 0", 7);
        wrong("V 2 to 4: 999", "values 999", 7);
        C.due("V told twice", Check.of("values 4;values 2").count(1), 2);
    }

    private static void worldsBounds() {
        int[] most = {9, 5, 4};
        int[] worlds = {512, 243, 256};
        for (int v = 2; v <= 4; v++) {
            String text = "values " + v + ";" + "person 1;".repeat(most[v - 2]);
            BackVillage full = Check.of(text.substring(0, text.length() - 1));
            C.due("512 at most: people of " + v, full.count(0), most[v - 2]);
            C.due("512 at most: worlds of " + v, full.count(5), worlds[v - 2]);
            C.due("All WORLDS are LEFT at first: of " + v, full.count(6), worlds[v - 2]);
            C.due("all of them: the last of " + v, full.left(worlds[v - 2] - 1), true);
            wrong("one PERSON too many, of " + v, text + "person 1", text.length());
            wrong("wrong at its first word, whatever comes behind, of " + v, text + " person x", text.length() + 1);
            wrong(full, "one PERSON too many in a later text, of " + v, "person 1", 0);
            C.due("and nobody came, of " + v, full.count(0), most[v - 2]);
        }
    }

    private static void codes() {
        C.due("CODE: 0 without PEOPLE", new BackVillage().count(7), 0);
        C.due("one WORLD without PEOPLE", new BackVillage().count(5), 1);
        C.due("CODE: of PERSON 0 first, base 2", Check.of("person 1;person 0;person 0").count(7), 4);
        C.due("CODE: of PERSON 0 first, base 3", Check.of("values 3;person 1;person 2").count(7), 5);
        C.due("CODE: of PERSON 0 first, base 4", Check.of("values 4;person 3;person 0;person 1").count(7), 49);
        C.due("the greatest CODE", Check.of("person 1;".repeat(8) + "person 1").count(7), 511);
        C.due("the least CODE", Check.of("person 0;".repeat(8) + "person 0").count(7), 0);
    }

    private static void atFirst() {
        BackVillage v = Check.of("person 1;person 0");
        C.due("SEES: nobody at first", v.person(0, 1), 0);
        C.due("SEES: nobody at first, the other one", v.person(1, 1), 0);
        C.due("DAY: 0 at first", v.count(4), 0);
        C.due("SEED 1 at first", v.seed(1), 1);
        C.due("no LAW at first", v.count(3), -1);
        C.due("All WORLDS are LEFT at first", v.count(6), 4);
    }

    private static void mostTexts() {
        BackVillage v = new BackVillage();
        for (int i = 1; i <= 12; i++) {
            C.due("texts, at most 12: text " + i, Check.tell(v, i == 1 ? "person 1;person 0" : ""), i);
        }
        C.dueThrow("there are 12", () -> Check.tell(v, "sees 0 1"), FULL);
        C.due("a text refused is read: no wrong byte", v.fault(), -1);
        C.due("a text refused changes nothing: who SEES whom", v.person(0, 1), 0);
        C.due("a text refused changes nothing: texts", v.count(2), 12);
        C.dueThrow("there are 12, also of an empty text", () -> Check.tell(v, ""), FULL);
        C.dueThrow("the exception told first: a wrong 13th text", () -> Check.tell(v, "sees 0 1;"), WRONG);
        C.due("the wrong byte of a wrong 13th text", v.fault(), 9);
        C.dueThrow("a right 13th text behind a wrong one", () -> Check.tell(v, "sees 0 1"), FULL);
        C.due("and no wrong byte any more", v.fault(), -1);
        BackVillage wrongs = new BackVillage();
        for (int i = 0; i < 13; i++) {
            wrong(wrongs, "wrong texts are none of the 12", ";", 0);
        }
        C.due("a first text behind 13 wrong ones", Check.tell(wrongs, ""), 1);
        for (int i = 1; i <= 14; i++) {
            C.due("texts of THE LAW are not counted: " + i, Check.rule(wrongs, "act " + i), 1);
        }
        C.due("texts behind laws", wrongs.count(2), 1);
    }

    private static void mostVillageLines() {
        String line = "least 0 have 0;";
        right("at most 14 LINES: 14", line.repeat(13) + "least 0 have 0");
        wrong("a LINE too many: its first word", line.repeat(14) + "  least 0 have 0", 14 * 15 + 2);
        wrong("a LINE too many that is wrong in itself", line.repeat(14) + "x", 14 * 15);
        wrong("a LINE too many that is not so", line.repeat(14) + "least 9 have 0", 14 * 15);
        wrong("a 14th LINE with a ; behind: more must come", line.repeat(14), 14 * 15);
        wrong("a wrong byte ahead of a LINE too many", line.repeat(13) + "least 0 have 2;" + line, 13 * 15 + 13);
        BackVillage v = Check.of(line.repeat(13) + "least 0 have 0");
        C.due("14 LINES of a text, and 14 of the next", Check.tell(v, line.repeat(13) + "least 0 have 0"), 2);
    }

    private static void mostLawLines() {
        String line = "act 1;";
        rightLaw("at most 12 LINES of THE LAW: 12", line.repeat(11) + "act 1", 12);
        wrongLaw("a LINE of THE LAW too many: its first word", line.repeat(12) + " act 1", 12 * 6 + 1);
        wrongLaw("a LINE of THE LAW too many that is wrong", line.repeat(12) + "nil", 12 * 6);
        wrongLaw("a 12th LINE of THE LAW with a ; behind", line.repeat(12), 12 * 6);
    }

    private static void twoThatAreOne() {
        for (String word : new String[] {"sees ", "alike ", "unlike "}) {
            int at = THREE.length() + word.length() + 2;
            wrong("not the same: else Q is wrong: " + word, THREE + word + "1 1", at);
            wrong("not the same, of the last PERSON: " + word, THREE + word + "2 2", at);
            wrong("not the same, told unlike: " + word, THREE + word + "2 002", at);
        }
    }

    private static void thereByThen() {
        for (String word : new String[] {"sees ", "alike ", "unlike "}) {
            int at = THREE.length() + word.length();
            wrong("P: a PERSON that there is: " + word, THREE + word + "3 1", at);
            wrong("Q: a PERSON that there is: " + word, THREE + word + "1 3", at + 2);
            wrong("P and Q of nobody: " + word, THREE + word + "3 3", at);
            wrong("a PERSON without PEOPLE: " + word, word + "0 1", word.length());
            wrong("that there is by then: " + word, "person 1;" + word + "0 1;person 1", 9 + word.length() + 2);
        }
        right("P and Q: the last and the first PERSON", THREE + "sees 2 0;alike 2 0;unlike 2 1");
    }

    private static void noticesOfLines() {
        for (int v = 2; v <= 4; v++) {
            String head = "values " + v + ";";
            int last = v - 1;
            right("N of person: a NOTICE: " + last, head + "person " + last);
            right("N of person: a NOTICE: 0", head + "person 0");
            wrong("N of person is none of " + v, head + "person " + v, 16);
            right("A: a NOTICE: " + last, head + "least 0 have " + last + ";most 0 have " + last);
            right("A: a NOTICE: 0", head + "least 0 have 0;most 0 have 0");
            wrong("A of least is none of " + v, head + "least 0 have " + v, 22);
            wrong("A of most is none of " + v, head + "most 9 have " + v, 21);
        }
    }

    private static void countsOfLines() {
        right("of least: 0", "least 0 have 0");
        right("of least: 9", "person 1;".repeat(9) + "least 9 have 1");
        wrong("of least: 10", "person 1;".repeat(9) + "least 10 have 1", 81 + 6);
        right("of most: 0", "most 0 have 0");
        right("of most: 9", "most 9 have 0");
        wrong("of most: 10", "most 10 have 0", 5);
        wrong("of most: 999", "most 999 have 0", 5);
    }

    private static void valuesAheadOfPeople() {
        wrong("values only ahead of all PEOPLE", "person 1;values 3", 9);
        wrong("values only ahead of all PEOPLE, of the same V", "person 1;values 2", 9);
        BackVillage v = Check.of("person 1");
        wrong(v, "values only ahead of all PEOPLE, in a later text", "values 3", 0);
        C.due("persons in a later text", Check.tell(v, "person 0"), 2);
        C.due("two by then", v.count(0), 2);
    }

    private static void closedByLines() {
        for (int i = 2; i < LINES.length; i++) {
            String line = LINES[i];
            wrong("a LINE of another kind was told: " + line, THREE + line + ";person 0", THREE.length() + line.length() + 1);
            BackVillage v = Check.of(THREE + line);
            wrong(v, "and in a later text: " + line, " person 0", 1);
            wrong(v, "values, too: " + line, "values 2", 0);
        }
        for (String line : new String[] {"least 0 have 0", "most 0 have 1"}) {
            wrong("without PEOPLE: values behind " + line, line + ";values 3", line.length() + 1);
            BackVillage v = Check.of(line);
            wrong(v, "without PEOPLE: values in a later text", "values 3", 0);
            wrong(v, "without PEOPLE: person in a later text", "person 1", 0);
        }
    }

    private static void closedByActs() {
        String[] names = {"turn", "ask", "day", "read", "claim", "query", "stroll"};
        for (int i = 0; i < names.length; i++) {
            BackVillage v = Check.of("person 1;person 0");
            act(v, i);
            wrong(v, "nothing was done: " + names[i], "person 1", 0);
            C.due("undone: " + names[i], v.undo(), true);
            wrong(v, "also those undone: " + names[i], "person 1", 0);
        }
        for (int i : new int[] {2, 4, 6}) {
            BackVillage v = new BackVillage();
            act(v, i);
            wrong(v, "values behind an act without PEOPLE: " + names[i], "values 3", 0);
            v.undo();
            wrong(v, "values behind an undone act without PEOPLE: " + names[i], "values 3", 0);
        }
    }

    private static void act(BackVillage v, int which) {
        switch (which) {
            case 0:
                v.turn(0, 1);
                break;
            case 1:
                v.ask(1);
                break;
            case 2:
                v.day();
                break;
            case 3:
                v.read(0);
                break;
            case 4:
                v.claim(0, 1);
                break;
            case 5:
                v.query(0, 1, 1);
                break;
            default:
                v.stroll(1);
        }
    }

    private static void notClosed() {
        BackVillage v = Check.of("person 1;person 0");
        C.dueThrow("treat without sight", () -> v.treat(0, 1, true), IllegalStateException.class);
        C.dueThrow("turn to nobody", () -> v.turn(0, 2), BOUNDS);
        C.dueThrow("ask nobody", () -> v.ask(2), BOUNDS);
        C.dueThrow("read nobody", () -> v.read(2), BOUNDS);
        C.dueThrow("claim what is not so", () -> v.claim(2, 0), IllegalStateException.class);
        C.dueThrow("query nobody", () -> v.query(2, 0, 0), BOUNDS);
        C.dueThrow("stroll by 0", () -> v.stroll(0), WRONG);
        C.due("refused ACTS do nothing", Check.tell(v, "person 1"), 2);
        wrong(v, "a wrong text", "sees 0 1;x", 9);
        C.due("of a wrong text no LINE was told", Check.tell(v, "person 1"), 3);
        Check.rule(v, "act 1");
        C.due("THE LAW is no LINE of THE VILLAGE", Check.tell(v, "person 1"), 4);
        v.seed(9);
        v.image();
        v.undo();
        v.trial(30);
        v.back();
        C.due("a seed, an image and going back are no ACTS", Check.tell(v, "person 1"), 5);
        C.due("people in the end", v.count(0), 6);
        BackVillage gone = new BackVillage();
        gone.image();
        Check.tell(gone, "person 1;person 0;sees 0 1");
        gone.day();
        gone.back();
        C.due("gone back to where nothing was done", Check.tell(gone, "values 4;person 3"), 1);
    }

    private static void falseLines() {
        // THE WORLD is 101
        wrong("least is not so in THE WORLD: the first word", THREE + " least 3 have 1", THREE.length() + 1);
        wrong("most is not so in THE WORLD", THREE + "most 1 have 1", THREE.length());
        wrong("alike is not so in THE WORLD", THREE + "alike 0 1", THREE.length());
        wrong("unlike is not so in THE WORLD", THREE + "unlike 0 2", THREE.length());
        wrong("not so, and more that is wrong behind", THREE + "unlike 0 2;x", THREE.length());
        wrong("not so, and behind the LINE what cannot stand there", THREE + "unlike 0 2 x", THREE.length());
        right("least: exactly so many", THREE + "least 2 have 1");
        right("most: exactly so many", THREE + "most 2 have 1;most 1 have 0");
        BackVillage v = Check.of(THREE + "least 2 have 1");
        C.due("WORLDS in which it is not so are LEFT no more", v.count(6), 4);
        C.due("a WORLD with one", v.left(1), false);
        C.due("a WORLD with two", v.left(3), true);
        C.due("a WORLD with three", v.left(7), true);
        wrong("without PEOPLE nobody has it", "least 1 have 0", 0);
    }

    private static void digits() {
        right("1 digit", "values 3");
        right("2 digits", "values 03");
        right("3 digits", "values 003;person 002;least 000 have 001");
        wrong("4 digits", "values 0003", 7);
        wrong("4 digits of a notice", "person 0001", 7);
        wrong("4 digits of P", THREE + "sees 0000 1", THREE.length() + 5);
        wrong("4 digits of Q", THREE + "sees 0 0001", THREE.length() + 7);
        wrong("4 digits of a count", "least 0000 have 1", 6);
        wrong("4 digits of A", "least 0 have 0001", 13);
        wrong("no digit", "values v", 7);
        rightLaw("act 0 and act 999", "act 0;act 999;act 007", 3);
        wrongLaw("act 1000", "act 1000", 4);
        wrongLaw("4 digits of act", "act 0001", 4);
        rightLaw("numbers 0 and 999 of sums", "act 1 if 0 < 999 and 000 + 1 > 01", 1);
        wrongLaw("4 digits in a sum", "act 1 if 1000 > 1", 9);
        wrongLaw("4 digits in a sum, on the right", "act 1 if 1 > 0000", 13);
        wrongLaw("4 digits of a part", "act 1 if 1 + 0000 > 1", 13);
    }

    private static void wordsGoOn() {
        String[] words = {"values", "person", "sees", "least", "most", "alike", "unlike"};
        for (int i = 0; i < words.length; i++) {
            String head = i < 2 ? "" : THREE;
            String rest = LINES[i].substring(words[i].length());
            wrong("a word goes on: " + words[i], head + words[i] + "s" + rest, head.length());
            wrong("a word that stops: " + words[i], head + words[i].substring(0, words[i].length() - 1) + rest, head.length());
            right("no blank behind a word: " + words[i], head + words[i] + rest.substring(1));
        }
        wrong("have goes on", THREE + "least 1 havea 1", THREE.length() + 8);
        right("have between numbers, without blanks", THREE + "least1have1;most2have1");
        rightLaw("words of THE LAW without blanks", "act5if3<theirs+who and not(sure or seen)and day>whom", 1);
        wrongLaw("not and sure in one", "act 1 if notsure", 9);
        wrongLaw("sure and and in one", "act 1 if sureand seen", 9);
        wrongLaw("who that goes on is whom, and then none", "act 1 if whoms < 1", 9);
        wrong("upper letters are no words", "PERSON 1", 0);
    }

    private static void blanks() {
        right("blanks ahead and behind", "   person 1;person 0   ");
        right("blanks between all", " person  1  ;  person   0 ;  sees   0   1 ;  least  0  have  1  ");
        rightLaw("blanks between all of THE LAW", "  act  1  if  (  not  sure  )  or  1  +  theirs  <  day  ;  act  2  ", 2);
        for (char c : new char[] {'\t', '\n', '\r', '\u000b', '\f', '\0', '\u001f', '!', '\u00a0', '\u00ff'}) {
            wrong("no blank, between: " + (int) c, "person" + c + "1", 6);
            wrong("no blank, ahead: " + (int) c, c + "person 1", 0);
            wrong("no blank, behind: " + (int) c, "person 1" + c, 8);
        }
        wrong("no blank within a number", "values 0 3", 7);
        wrong("no blank within a word", "per son 1", 0);
    }

    private static void noLine() {
        BackVillage v = Check.of("person 1");
        C.due("a text that is empty has no LINE", Check.tell(v, ""), 2);
        C.due("blanks alone have no LINE", Check.tell(v, "  "), 3);
        C.due("400 blanks", Check.tell(v, " ".repeat(400)), 4);
        C.due("nothing came of them", v.count(0), 1);
        C.due("and person may be told still", Check.tell(v, "person 0"), 5);
        C.due("an empty law", Check.rule(v, ""), 0);
        C.due("LINES of an empty law", v.count(3), 0);
        C.due("a law of blanks", Check.rule(v, "   "), 0);
        wrong("an empty LINE is none", ";", 0);
        wrong("an empty LINE ahead", ";person 1", 0);
        wrong("an empty LINE between", "person 1; ;person 1", 10);
        wrongLaw("an empty LINE of THE LAW", "act 1;;act 1", 6);
    }

    private static void deep() {
        rightLaw("( at most 6 deep: 6", "act 1 if ((((((sure))))))", 1);
        rightLaw("not at most 6 deep: 6", "act 1 if not not not not not not sure", 1);
        rightLaw("( and not at most 6 deep: 6", "act 1 if (not (not (not sure)))", 1);
        rightLaw("6 deep, one behind another", "act 1 if not not not not not not sure and ((((((seen)))))) or not sure", 1);
        rightLaw("6 deep in each LINE", "act 1 if ((((((sure))))));act 2 if not not not not not not seen", 2);
        wrongLaw("a 7th (", "act 1 if (((((((sure)))))))", 15);
        wrongLaw("a 7th not", "act 1 if not not not not not not not sure", 33);
        wrongLaw("a 7th, not, within (", "act 1 if ((((((not sure))))))", 15);
        wrongLaw("a 7th, (, within not", "act 1 if not not not not not not (sure)", 33);
        wrongLaw("a 7th behind or", "act 1 if ((((((sure or not seen))))))", 23);
        wrongLaw("a 7th behind and", "act 1 if ((((((sure and (seen)))))))", 24);
        wrongLaw("a 7th that is the last byte", "act 1 if (((((((", 15);
    }

    private static void mustCome() {
        for (int i = 0; i < LINES.length; i++) {
            String head = i < 2 ? "" : THREE;
            String[] things = LINES[i].split(" ");
            StringBuilder cut = new StringBuilder(head);
            for (int k = 0; k + 1 < things.length; k++) {
                cut.append(k > 0 ? " " : "").append(things[k]);
                wrong("more must come: the text's length: " + cut, cut.toString(), cut.length());
                wrong("more must come behind blanks: " + cut, cut + "  ", cut.length() + 2);
                wrong("more must come, not a LINE: " + cut, cut + ";" + LINES[i], cut.length());
            }
            wrong("a LINE must come behind ;: " + LINES[i], head + LINES[i] + ";", head.length() + LINES[i].length() + 1);
        }
        mustCome("act 1 if not ( theirs + 1 < who or seen ) and day > 2", 2, 13, 17);
        mustCome("act 1 if sure or seen and 1 < 2 ; act 2 if not not 1 + day > theirs or 2 > 1", 2, 4, 6, 10, 13, 21, 25);
    }

    /** Cuts a law behind each of its things; behind some, told by how many there are, it is whole. */
    private static void mustCome(String law, int... wholes) {
        String[] things = law.split(" ");
        StringBuilder cut = new StringBuilder();
        int next = 0;
        int lines = 1;
        for (int k = 0; k < things.length; k++) {
            cut.append(k > 0 ? " " : "").append(things[k]);
            lines += things[k].equals(";") ? 1 : 0;
            if (next < wholes.length && wholes[next] == k + 1) {
                next++;
                rightLaw("nothing must come: " + cut, cut.toString(), lines);
            } else {
                wrongLaw("more must come: the text's length: " + cut, cut.toString(), cut.length());
                wrongLaw("more must come behind a blank: " + cut, cut + " ", cut.length() + 1);
                wrongLaw("more must come, not a LINE: " + cut, cut + ";act 1", cut.length());
            }
        }
        C.due("all whole ones were cut", next, wholes.length);
    }

    private static void cannotStand() {
        for (int i = 0; i < LINES.length; i++) {
            String head = i < 2 ? "" : THREE;
            for (String other : new String[] {"?", "zzz", "0000", ")", "act", "-1", "\u00e9"}) {
                replaced(head, LINES[i], other);
            }
            wrong("behind a whole LINE", head + LINES[i] + " 1", head.length() + LINES[i].length() + 1);
        }
        String[] things = "act 1 if not ( theirs + 1 < who or seen ) and day > 2 ; act 3".split(" ");
        int at = 0;
        for (int k = 0; k < things.length; k++) {
            for (String other : new String[] {"?", "zzz", "0000", "have", "=", "A"}) {
                String[] changed = things.clone();
                changed[k] = other;
                wrongLaw("what cannot stand there: " + other, String.join(" ", changed), at);
            }
            at += things[k].length() + 1;
        }
        wrong("the first of two wrong things", "person 1;person 2;values 9", 16);
        wrongLaw("the first of two wrong things of THE LAW", "act 1 if sure < 1;art", 14);
    }

    private static void replaced(String head, String line, String other) {
        String[] things = line.split(" ");
        int at = head.length();
        for (int k = 0; k < things.length; k++) {
            String[] changed = things.clone();
            changed[k] = other;
            wrong("what cannot stand there: " + other, head + String.join(" ", changed), at);
            at += things[k].length() + 1;
        }
    }

    private static void wrongTextLeavesNothing() {
        String[] texts = {"sees 0 2;x", "sees 0 2;sees 0 0", "most 2 have 1;least 3 have 1", "alike 0 2;", "person 1",
            "values 3", "unlike 0 1;sees 9 1", "\0"};
        for (String text : texts) {
            Twin.sameState(C, "Of a wrong text nothing stays: " + text, Twin::rich, v -> refusedText(v, text), v -> { });
        }
        for (String text : new String[] {"person 1;x", "sees 0 1;", "least 1 have 1;least 9 have 1", "values 3", "person 2"}) {
            Twin.sameState(C, "Of a wrong text nothing stays: " + text, Twin::open, v -> refusedText(v, text), v -> { });
        }
        wrong("V of a wrong text", "values 4;person 3;x", 18);
        BackVillage v = new BackVillage();
        wrong(v, "V of a wrong text", "values 4;person 3;x", 18);
        C.due("V stays 2", v.count(1), 2);
        wrong(v, "so that 3 is no NOTICE", "person 3", 7);
        for (String text : new String[] {"act 7 if", "act", "x", "act 1;act 2;", "act 1;act 1000"}) {
            Twin.sameState(C, "Of a wrong law nothing stays: " + text, Twin::rich, w -> refusedLaw(w, text), w -> { });
        }
        Twin.sameState(C, "without a law: of a wrong one nothing stays", Twin::open, w -> refusedLaw(w, "act 1 if"), w -> { });
    }

    private static void refusedText(BackVillage v, String text) {
        C.dueThrow("a wrong text: " + text, () -> Check.tell(v, text), WRONG);
    }

    private static void refusedLaw(BackVillage v, String text) {
        C.dueThrow("a wrong law: " + text, () -> Check.rule(v, text), WRONG);
    }

    private static void mannersOfLaws() {
        BackVillage v = Check.of("values 4;person 3;person 3;sees 0 1;sees 1 0");
        C.due("MANNER: 0 without a text", v.manner(0, 1, 15), 0);
        Check.rule(v, "");
        C.due("MANNER: 0 of no LINE", v.manner(0, 1, 15), 0);
        Check.rule(v, "act 5 if 1 < 1;act 7 if theirs > 3");
        C.due("MANNER: 0 if none holds", v.manner(0, 1, 15), 0);
        Check.rule(v, "act 999;".repeat(11) + "act 999");
        C.due("MANNER: the sum of all that hold", v.manner(0, 1, 15), 12 * 999);
        Check.rule(v, "act 1 if theirs > 2;act 2 if sure;act 4 if not seen");
        C.due("MANNER: theirs 3, not SURE, seen", v.manner(0, 1, 15), 1);
        v.turn(0, 0);
        C.due("MANNER: theirs 3, SURE", v.manner(0, 1, 15), 3);
        C.due("MANNER: theirs 0, SURE", v.manner(0, 1, 12), 2);
        C.due("MANNER in a WORLD of CODE 0", v.manner(0, 1, 0), 2);
        C.due("MANNER of the other one, not SURE", v.manner(1, 0, 15), 1);
        Check.rule(v, "act 1 if 1 < 1;act 2 if 1 > 1;act 4 if 1 < 2;act 8 if 2 > 1;act 16 if 2 < 1;act 32 if 1 > 2");
        C.due("< and > of the same are not so", v.manner(0, 1, 15), 12);
        Check.rule(v, "act 1 if 999 + 999 + 999 > 998 + 999 + 999");
        C.due("sums above 999", v.manner(0, 1, 15), 1);
        Check.rule(v, "act 3");
        C.due("THE LAW in place of the one before", v.manner(0, 1, 15), 3);
    }

    // ---- promises 2 to 6

    private static void feedBounds() {
        BackVillage v = new BackVillage();
        for (int i = 1; i <= 20; i++) {
            C.due("how many it has: " + 20 * i, v.feed(0, 0, 0, 0, 0), 20 * i);
        }
        C.due("NONE, if it would have 420", v.feed(0, 0, 0, 0, 0), -1);
        C.due("and none come", v.end(401), false);
        C.due("400 are there", v.end(400), true);
        v.end(381);
        C.due("NONE, if it would have 401", v.feed(0, 0, 0, 0, 0), -1);
        C.due("and not a single one comes", v.end(382), false);
        C.due("381 are there", v.end(381), true);
        v.end(380);
        C.due("not more than 400", v.feed(0, 0, 0, 0, 0), 400);
    }

    private static void feedBytes() {
        BackVillage v = new BackVillage();
        v.feed(0x61637420, 0x39393900, 0xffffffff, Integer.MIN_VALUE, -2);
        v.end(7);
        C.due("of each number the highest first: act 999", v.law(), 1);
        // -1 is four bytes of 255, the least number a byte of 128 and three of 0
        BackVillage w = Check.of("person 1;person 0;".repeat(4) + "person 1");
        w.feed(0x69680161, 0x62000000, 0, 0, 0);
        w.end(3);
        C.due("bytes of liars: i said that h has 1", w.liars(0, false), 256);
        BackVillage high = new BackVillage();
        high.feed(-1, 0, 0, 0, 0);
        C.dueThrow("a byte of 255 is no blank", high::village, WRONG);
        C.due("and wrong at once", high.fault(), 0);
        Check.tape(w, "");
        w.feed(0x616200ff, 0, 0, 0, 0);
        w.end(4);
        C.dueThrow("a byte too many of liars", () -> w.liars(0, false), WRONG);
    }

    private static void endBounds() {
        BackVillage v = new BackVillage();
        C.due("an empty TAPE has 0", v.end(0), true);
        C.due("an empty TAPE has no 1", v.end(1), false);
        v.feed(0x61637420, 0x31203b20, 0, 0, 0);
        for (int n : new int[] {-1, 21, 400, 401, Integer.MAX_VALUE, Integer.MIN_VALUE}) {
            C.due("false: " + n, v.end(n), false);
        }
        C.due("and nothing happens: 20 are there", v.end(20), true);
        C.due("its first 6 alone", v.end(6), true);
        C.due("the others are away", v.end(7), false);
        C.due("its first bytes, not its last", v.law(), 1);
        v.feed(0, 0, 0, 0, 0);
        v.end(0);
        C.due("first 0: all are away", v.end(1), false);
        C.due("behind those that stay", v.feed(0, 0, 0, 0, 0), 20);
    }

    private static void usedUp() {
        BackVillage v = Check.of("person 1;person 0");
        C.due("by a right text", v.end(1), false);
        wrong(v, "by a wrong text", "x", 0);
        C.due("the TAPE was used up by a wrong text", v.end(1), false);
        Check.rule(v, "act 1");
        C.due("the TAPE was used up by a law", v.end(1), false);
        refusedLaw(v, "act");
        C.due("the TAPE was used up by a wrong law", v.end(1), false);
        Check.tape(v, "ab\1");
        v.rows(-1);
        C.due("the TAPE was used up by rows", v.end(1), false);
        Check.tape(v, "ab\1");
        C.dueThrow("rows of k below NONE", () -> v.rows(-2), WRONG);
        C.due("the TAPE was used up by rows refused", v.end(1), false);
        Check.tape(v, "ab\1");
        v.liars(0, true);
        C.due("the TAPE was used up by liars", v.end(1), false);
        Check.tape(v, "ab\1");
        C.dueThrow("liars of K 10", () -> v.liars(10, true), WRONG);
        C.due("the TAPE was used up by liars refused", v.end(1), false);
        while (v.count(2) < 12) {
            Check.tell(v, "");
        }
        C.dueThrow("a 13th text", () -> Check.tell(v, "  "), FULL);
        C.due("the TAPE was used up by a text refused", v.end(1), false);
        Check.tape(v, "act 1");
        v.day();
        v.undo();
        v.image();
        v.back();
        C.due("the TAPE is not gone back to", v.law(), 1);
    }

    private static void faults() {
        BackVillage v = new BackVillage();
        C.due("NONE ahead of any", v.fault(), -1);
        Check.tape(v, "x");
        C.due("of texts that were read, not fed", v.fault(), -1);
        wrong(v, "of the latest text", "person 1;x", 9);
        C.due("it stays until the next text", v.fault(), 9);
        Check.tell(v, "");
        C.due("NONE without one", v.fault(), -1);
        wrong(v, "once more", " x", 1);
        Check.rule(v, "act 1");
        C.due("NONE without one in a law", v.fault(), -1);
        refusedLaw(v, "act 1 if");
        C.due("of a wrong law", v.fault(), 8);
        Check.tape(v, "a");
        C.dueThrow("rows", () -> v.rows(0), WRONG);
        Check.tape(v, "a");
        C.dueThrow("liars", () -> v.liars(0, true), WRONG);
        C.due("rows and liars read no text", v.fault(), 8);
        v.day();
        v.undo();
        C.due("but for fault(): undone", v.fault(), 8);
        v.image();
        Check.tell(v, "");
        v.back();
        C.due("but for fault(): gone back", v.fault(), -1);
    }

    // ---- promise 1: nobody

    private static void nobody() {
        BackVillage v = new BackVillage();
        int[] counts = {0, 2, 0, -1, 0, 1, 1, 0, 0, 0, 0};
        for (int i = 0; i < counts.length; i++) {
            C.due("Nobody: count " + i, v.count(i), counts[i]);
        }
        C.due("the WORLD without PEOPLE is LEFT", v.left(0), true);
        C.due("MUDDY of nobody", v.muddy(-1), -1);
        C.due("the first WORLD of nobody", v.nth(-1, 0), 0);
        C.due("no other WORLD of nobody", v.nth(-1, 1), -1);
        C.due("ALL RIGHT of nobody", v.right(-1), 1);
        C.due("MARRIED of nobody", v.married(-1), 0);
        C.due("QUIET of nobody", v.quiet(), 0);
        C.due("NONE without PEOPLE: WIDEST", v.widest(), -1);
        C.due("NONE without PEOPLE: UNDER", v.under(), -1);
        C.due("TRIAL of nobody", v.trial(30), 0);
        C.due("SPAN of nobody", v.span(30, true), 0);
        C.due("1 order without PEOPLE", v.rows(-1), 1);
        C.due("no last one without PEOPLE", v.rows(0), -1);
        C.due("LIARS of nobody", v.liars(0, false), 1);
        C.due("who of nobody lied", v.liars(0, true), 0);
        for (int p : new int[] {0, -1, 1, Integer.MAX_VALUE, Integer.MIN_VALUE}) {
            C.dueThrow("no such PERSON", () -> v.person(p, 0), BOUNDS);
            C.dueThrow("no such PERSON", () -> v.apart(p, 0, 0), BOUNDS);
            C.dueThrow("no such PERSON", () -> v.sure(p, 0), BOUNDS);
            C.dueThrow("no such PERSON", () -> v.turn(p, p), BOUNDS);
            C.dueThrow("no such PERSON", () -> v.treat(p, p, true), BOUNDS);
            C.dueThrow("no such PERSON", () -> v.steps(p, p), BOUNDS);
        }
        C.due("CLAIMED: 0 of nobody", v.claim(0, 1), 0);
        C.dueThrow("CLAIMED: 1 of nobody", () -> v.claim(1, 1), IllegalStateException.class);
        C.due("a DAY of nobody", v.day(), 0);
        C.due("DAY is 1 more", v.count(4), 1);
        C.due("a STROLL of nobody", v.stroll(30), 0);
        C.due("nothing is drawn", v.seed(1), 1);
    }
}
