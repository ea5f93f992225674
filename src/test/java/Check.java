/** Counts the answers that are not due; a small helper of all tests. */
final class Check {
    private final String name;
    private int wrong;
    private int asked;

    Check(String name) {
        this.name = name;
    }

    void due(String what, long got, long want) {
        asked++;
        if (got != want) {
            wrong++;
            System.out.println(name + ": " + what + " answered " + got + ", due is " + want);
        }
    }

    void due(String what, boolean got, boolean want) {
        due(what, got ? 1 : 0, want ? 1 : 0);
    }

    void dueThrow(String what, Call call, Class<? extends RuntimeException> want) {
        asked++;
        try {
            call.run();
        } catch (RuntimeException e) {
            if (e.getClass() != want) {
                wrong++;
                System.out.println(name + ": " + what + " threw " + e + ", due is " + want.getSimpleName());
            }
            return;
        }
        wrong++;
        System.out.println(name + ": " + what + " threw nothing, due is " + want.getSimpleName());
    }

    /** Ends the test with exit code 1 if an answer was wrong. */
    void finish() {
        System.out.println(name + ": " + asked + " answers, " + wrong + " wrong");
        if (wrong > 0) {
            System.exit(1);
        }
    }

    interface Call {
        void run();
    }

    /** Puts the bytes on an empty tape. */
    static void tape(BackVillage v, byte[] bytes) {
        v.end(0);
        for (int i = 0; i < bytes.length; i += 20) {
            int[] n = new int[5];
            for (int k = 0; k < 20; k++) {
                int b = i + k < bytes.length ? bytes[i + k] & 255 : 0;
                n[k / 4] = n[k / 4] << 8 | b;
            }
            v.feed(n[0], n[1], n[2], n[3], n[4]);
        }
        v.end(bytes.length);
    }

    static void tape(BackVillage v, String text) {
        byte[] bytes = new byte[text.length()];
        for (int i = 0; i < bytes.length; i++) {
            bytes[i] = (byte) text.charAt(i);
        }
        tape(v, bytes);
    }

    /** Tells a text of the village; its count of texts. */
    static int tell(BackVillage v, String text) {
        tape(v, text);
        return v.village();
    }

    /** Tells the law; its count of lines. */
    static int rule(BackVillage v, String text) {
        tape(v, text);
        return v.law();
    }

    static BackVillage of(String text) {
        BackVillage v = new BackVillage();
        tell(v, text);
        return v;
    }
}
