/** Three people who see each other; two of them have a 1 on their backs. */
public final class Example {
    public static void main(String[] args) {
        BackVillage v = new BackVillage();
        tape(v, "person 1; person 1; person 0");
        print(v.village());                   // 1: one text of THE VILLAGE
        tape(v, "sees 0 1; sees 0 2; sees 1 0; sees 1 2; sees 2 0; sees 2 1; least 1 have 1");
        print(v.village());                   // 2: two texts
        print(v.count(6));                    // 7: WORLDS LEFT, all but that of CODE 0
        print(v.count(7));                    // 6: CODE of THE WORLD, figures 1 1 0 of base 2
        print(v.possible(0, 0));              // 3: a 0 or a 1 (bits 0 and 1) on one's own back
        print(v.muddy(BackVillage.NONE));     // 1: somebody is SURE behind one DAY
        print(v.day());                       // 0: nobody says to be SURE
        print(v.count(8));                    // 3: PERSONS 0 and 1 (bits 0 and 1) are SURE now
        print(v.knows(0, 0));                 // 1: the NOTICE that PERSON 0 KNOWS to have
        print(v.knows(2, 2));                 // -1: PERSON 2 KNOWS none (BackVillage.NONE)
        print(v.undo() ? 1 : 0);              // 1: the DAY is UNDONE
        print(v.count(8));                    // 0: nobody is SURE
        tape(v, "act 1; act 2 if theirs > 0 and not sure");
        print(v.law());                       // 2: LINES of THE LAW
        print(v.treat(0, 2, false));          // 1: the MANNER of 0 to 2, in private
        print(v.count(8));                    // 4: PERSON 2 is SURE, as a 1 would be treated by 3
        print(v.led(2));                      // 0: by the latest row of THE LOG
        tape(v, "sees 1 1");
        try {
            print(v.village());
        } catch (IllegalArgumentException wrong) {
            print(v.fault());                 // 7: the byte at which the text is wrong
        }
    }

    /** Puts a text (400 bytes at most) on the empty TAPE: twenty bytes a call, then cut to the text's length. */
    static void tape(BackVillage v, String text) {
        v.end(0);
        for (int i = 0; i < text.length(); i += 20) {
            v.feed(four(text, i), four(text, i + 4), four(text, i + 8), four(text, i + 12), four(text, i + 16));
        }
        v.end(text.length());
    }

    /** Four bytes of a text as one number, the first byte highest. */
    static int four(String text, int at) {
        int number = 0;
        for (int i = at; i < at + 4; i++) {
            number = number << 8 | (i < text.length() ? text.charAt(i) & 255 : 0);
        }
        return number;
    }

    static void print(int answer) {
        System.out.println(answer);
    }
}
