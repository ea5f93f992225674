import java.util.Random;

/** Long runs of calls, drawn from told seeds, on the class and on the model of the document. */
public final class ModelTest {
    private static final Check CHECK = new Check("ModelTest");
    private static final int[] FAR = {Integer.MIN_VALUE, Integer.MAX_VALUE, -1, -2, 9, 10, 31, 32, 60, 511, 512, 4608,
        1 << 30, -(1 << 30)};
    private static int wrongRuns;

    private final Random random;
    private final BackVillage real = new BackVillage();
    private final Model model = new Model();
    private final StringBuilder story = new StringBuilder();
    private boolean bad;

    private ModelTest(long seed) {
        random = new Random(seed);
    }

    public static void main(String[] args) {
        int many = args.length > 0 ? Integer.parseInt(args[0]) : 2000;
        int first = args.length > 1 ? Integer.parseInt(args[1]) : 1;
        for (int i = first; i < first + many && wrongRuns < 5; i++) {
            new ModelTest(i).run(i % 50 == 0);
        }
        CHECK.finish();
    }

    private int draw(int n) {
        return random.nextInt(n);
    }

    private void run(boolean big) {
        int v = 2 + (draw(2) == 0 ? 0 : draw(3));
        int most = big ? v == 2 ? 9 : v == 3 ? 5 : 4 : v == 2 ? 5 : v == 3 ? 4 : 3;
        int people = draw(25) == 0 ? draw(3) : Math.min(most, 2 + draw(most));
        if (big) {
            people = most - draw(2);
        }
        text(false, village(v, people));
        if (draw(2) == 0 && people > 1) {
            sights(people);
        }
        if (draw(4) > 0) {
            text(true, law());
        }
        int calls = big ? 12 : 70;
        for (int i = 0; i < calls && !bad; i++) {
            step();
        }
        if (bad) {
            wrongRuns++;
            System.out.println(story);
        }
    }

    // ---- texts

    private String village(int v, int people) {
        StringBuilder t = new StringBuilder();
        if (v != 2 || draw(6) == 0) {
            t.append("values ").append(v).append(';');
        }
        for (int p = 0; p < people; p++) {
            t.append("person ").append(draw(v)).append(';');
        }
        int lines = draw(5);
        for (int i = 0; i < lines; i++) {
            t.append(fact(v, people)).append(';');
        }
        if (t.length() > 0) {
            t.setLength(t.length() - 1);
        }
        return t.toString();
    }

    /** Most see most others, as in the tale of the muddy ones. */
    private void sights(int people) {
        StringBuilder t = new StringBuilder();
        int lines = 0;
        int rare = 2 + draw(8);
        for (int p = 0; p < people; p++) {
            for (int q = 0; q < people; q++) {
                if (p != q && draw(rare) > 0) {
                    t.append(lines++ > 0 ? ";" : "").append("sees ").append(p).append(' ').append(q);
                }
                if (lines == 14) {
                    text(false, t.toString());
                    t.setLength(0);
                    lines = 0;
                }
            }
        }
        int v = model.v;
        t.append(lines > 0 ? ";" : "").append("least 1 have ").append(draw(v));
        text(false, t.toString());
    }

    private String fact(int v, int people) {
        int n = Math.max(1, people);
        int p = draw(n);
        int q = n > 1 ? (p + 1 + draw(n - 1)) % n : draw(30) == 0 ? p : 1;
        switch (draw(12)) {
            case 0:
                return "least " + draw(3) + " have " + draw(v);
            case 1:
                return "most " + (draw(4) + 1) + " have " + draw(v);
            case 2:
                return "alike " + p + " " + q;
            case 3:
                return "unlike " + p + " " + q;
            default:
                return "sees " + p + " " + q;
        }
    }

    private String law() {
        StringBuilder t = new StringBuilder();
        int lines = 1 + draw(4);
        for (int i = 0; i < lines; i++) {
            t.append("act ").append(draw(4) == 0 ? draw(1000) : 1 + draw(3));
            if (draw(5) > 0) {
                t.append(" if ").append(any(draw(4)));
            }
            t.append(i + 1 < lines ? draw(2) == 0 ? ";" : " ; " : "");
        }
        return t.toString();
    }

    private String any(int deep) {
        String c = all(deep);
        for (int i = draw(3); i == 0; i++) {
            c += " or " + all(deep);
        }
        return c;
    }

    private String all(int deep) {
        String c = atom(deep);
        for (int i = draw(3); i == 0; i++) {
            c += " and " + atom(deep);
        }
        return c;
    }

    private String atom(int deep) {
        switch (draw(deep > 0 ? 9 : 6)) {
            case 0:
                return "sure";
            case 1:
                return "seen";
            case 6:
            case 7:
                return "not " + atom(deep - 1);
            case 8:
                return "(" + any(deep - 1) + ")";
            default:
                return sum() + (draw(2) == 0 ? " < " : ">") + sum();
        }
    }

    private String sum() {
        String s = part();
        for (int i = draw(4); i == 0; i++) {
            s += draw(2) == 0 ? "+" : " + " + part() + "+";
            s += part();
        }
        return s;
    }

    private String part() {
        String[] parts = {"theirs", "theirs", "theirs", "who", "whom", "day", "0", "1", "2", "3"};
        return parts[draw(parts.length)];
    }

    /** Makes a text wrong, perhaps. */
    private String mutate(String t) {
        String[] bits = {"", " ", "  ", ";", "x", "values 3", "person 0", "sees 0 1", "have", "0", "1", "9", "10",
            "0000", "not ", "(", ")", "<", ">", "+", "and", "or", "act 1", "if", "sure", "seen", "\u00e4", "\n", "A",
            "least", "alike 0 1", "unlike 1 0", "most 1 have 1", "theirs", "012", "\u0000", "\u0001", "\u0002", "12"};
        int times = 1 + draw(2);
        for (int i = 0; i < times; i++) {
            int from = draw(t.length() + 1);
            int to = Math.min(t.length(), from + draw(3) * draw(4));
            t = t.substring(0, from) + bits[draw(bits.length)] + t.substring(to);
        }
        return t;
    }

    private void text(boolean law, String t) {
        if (t.length() > 400) {
            t = t.substring(0, 400);
        }
        byte[] bytes = new byte[t.length()];
        for (int i = 0; i < bytes.length; i++) {
            bytes[i] = (byte) t.charAt(i);
        }
        tape(bytes);
        story.append("  \"").append(t).append("\"\n");
        call(law ? "law" : "village", 0, 0, 0);
        call("fault", 0, 0, 0);
    }

    private void tape(byte[] bytes) {
        call("end", 0, 0, 0);
        for (int i = 0; i < bytes.length; i += 20) {
            int[] n = new int[5];
            for (int k = 0; k < 20; k++) {
                n[k / 4] = n[k / 4] << 8 | (i + k < bytes.length ? bytes[i + k] & 255 : draw(256));
            }
            same("feed", real.feed(n[0], n[1], n[2], n[3], n[4]), model.feed(n));
        }
        call("end", bytes.length, 0, 0);
    }

    // ---- calls

    private int someone() {
        int n = model.n();
        return draw(40) == 0 ? draw(12) - 2 : n == 0 ? draw(2) : draw(n);
    }

    private int someoneOrNone() {
        return draw(3) == 0 ? -1 : someone();
    }

    private int notice() {
        return draw(25) == 0 ? draw(7) - 1 : draw(model.v);
    }

    private int someWorld() {
        if (draw(3) > 0) {
            int k = draw(Math.max(1, (int) model.call("count", 6, 0, 0)));
            return (int) model.call("nth", -1, k, 0);
        }
        return draw(20) == 0 ? model.worlds() - draw(2) * 600 : draw(model.worlds());
    }

    private void step() {
        switch (draw(30)) {
            case 0:
                call("day", 0, 0, 0);
                break;
            case 1:
                call("ask", someone(), 0, 0);
                break;
            case 2:
                call("read", someone(), 0, 0);
                break;
            case 3:
                call("claim", draw(20) == 0 ? draw(14) - 2 : draw(3), notice(), 0);
                break;
            case 4:
            case 5:
                call("query", someone(), someone(), notice());
                break;
            case 6:
                call("stroll", draw(10) == 0 ? draw(40) - 4 : 1 + draw(5), 0, 0);
                break;
            case 7:
            case 8:
            case 9:
                treat();
                break;
            case 10:
                call("turn", someone(), someone(), 0);
                break;
            case 11:
            case 12:
                call("undo", 0, 0, 0);
                break;
            case 13:
                call(draw(2) == 0 ? "image" : draw(2) == 0 ? "back" : "count", 10, 0, 0);
                break;
            case 14:
                rareText();
                break;
            case 15:
                call("seed", draw(3) == 0 ? random.nextInt() : draw(10), 0, 0);
                break;
            case 16:
                tapeCall();
                break;
            default:
                look();
        }
    }

    private void treat() {
        for (int tries = 0; tries < 10; tries++) {
            int who = someone();
            int whom = someone();
            boolean good = who >= 0 && whom >= 0 && who < model.n() && whom < model.n() && model.sees[who][whom];
            if (good || draw(8) == 0) {
                call("treat", who, whom, draw(3) == 0 ? 1 : 0);
                return;
            }
        }
    }

    private void rareText() {
        String t = draw(2) == 0 ? law() : "";
        boolean law = !t.isEmpty();
        if (!law) {
            t = draw(3) == 0 ? village(model.v, draw(3)) : fact(model.v, model.n());
        }
        if (draw(2) == 0) {
            t = mutate(t);
        }
        text(draw(20) == 0 ? !law : law, t);
    }

    private void tapeCall() {
        boolean row = draw(2) == 0;
        int many = draw(row ? 4 : 6);
        byte[] t = new byte[3 * many + (draw(20) == 0 ? draw(3) : 0)];
        for (int i = 0; i < t.length; i++) {
            t[i] = (byte) (i % 3 < 2 ? 97 + someone() : row ? draw(30) == 0 ? draw(4) : draw(2) : notice());
        }
        tape(t);
        if (row) {
            call("rows", draw(15) == 0 ? draw(20) - 5 : draw(3) == 0 ? -1 : draw(6), 0, 0);
        } else {
            call("liars", draw(15) == 0 ? draw(20) - 5 : draw(5), draw(2), 0);
        }
        if (draw(5) == 0) {
            call("end", draw(4), 0, 0);
        }
    }

    private void look() {
        String[] names = {"fault", "person", "left", "apart", "sure", "manner", "possible", "knows", "thinks", "common",
            "muddy", "backs", "gives", "never", "question", "queries", "spill", "quiet", "game", "steps", "trial",
            "span", "nth", "guess", "right", "married", "led", "widest", "under", "log", "count"};
        String name = names[draw(names.length)];
        switch (name) {
            case "person":
                call(name, someone(), draw(20) == 0 ? draw(12) - 3 : draw(6), 0);
                break;
            case "left":
                call(name, someWorld(), 0, 0);
                break;
            case "apart":
                call(name, someone(), someWorld(), someWorld());
                break;
            case "sure":
                call(name, someone(), someWorld(), 0);
                break;
            case "manner":
                call(name, someone(), someone(), someWorld());
                break;
            case "thinks":
                call(name, someone(), someone(), someone());
                break;
            case "possible":
            case "knows":
            case "steps":
                call(name, someone(), someone(), 0);
                break;
            case "muddy":
            case "right":
            case "married":
                call(name, someoneOrNone(), 0, 0);
                break;
            case "game":
                call(name, someone(), draw(2), 0);
                break;
            case "trial":
            case "span":
                call(name, draw(10) == 0 ? draw(40) - 5 : draw(8), draw(2), 0);
                break;
            case "nth":
                call(name, someoneOrNone(), draw(10) - 1, 0);
                break;
            case "log":
                call(name, draw(15) == 0 ? draw(80) - 5 : draw(6), draw(15) == 0 ? draw(10) - 3 : draw(5), 0);
                break;
            case "count":
                call(name, draw(14) - 1, 0, 0);
                break;
            default:
                call(name, someone(), 0, 0);
        }
    }

    private void call(String name, int a, int b, int c) {
        if (bad) {
            return;
        }
        if (draw(60) == 0 && !name.equals("end")) {
            int far = FAR[draw(FAR.length)];
            int which = draw(3);
            a = which == 0 ? far : a;
            b = which == 1 ? far : b;
            c = which == 2 ? far : c;
        }
        String what = name + "(" + a + ", " + b + ", " + c + ")";
        String want;
        try {
            want = "" + (name.equals("end") ? model.end(a) ? 1 : 0 : model.call(name, a, b, c));
        } catch (RuntimeException e) {
            want = e.getClass().getSimpleName();
        }
        String got;
        try {
            got = "" + answer(name, a, b, c);
        } catch (RuntimeException e) {
            got = e.getClass().getSimpleName();
        }
        story.append(what).append(" -> ").append(want).append('\n');
        same(what, got.hashCode(), want.hashCode());
        if (!got.equals(want)) {
            story.append("  BUT IT WAS ").append(got).append('\n');
            bad = true;
        }
    }

    private void same(String what, long got, long want) {
        CHECK.due(what, got, want);
    }

    private long answer(String name, int a, int b, int c) {
        switch (name) {
            case "end":
                return real.end(a) ? 1 : 0;
            case "village":
                return real.village();
            case "law":
                return real.law();
            case "fault":
                return real.fault();
            case "person":
                return real.person(a, b);
            case "left":
                return real.left(a) ? 1 : 0;
            case "apart":
                return real.apart(a, b, c) ? 1 : 0;
            case "sure":
                return real.sure(a, b) ? 1 : 0;
            case "manner":
                return real.manner(a, b, c);
            case "treat":
                return real.treat(a, b, c != 0);
            case "turn":
                return real.turn(a, b);
            case "ask":
                return real.ask(a) ? 1 : 0;
            case "day":
                return real.day();
            case "read":
                return real.read(a);
            case "claim":
                return real.claim(a, b);
            case "query":
                return real.query(a, b, c);
            case "stroll":
                return real.stroll(a);
            case "possible":
                return real.possible(a, b);
            case "knows":
                return real.knows(a, b);
            case "thinks":
                return real.thinks(a, b, c) ? 1 : 0;
            case "common":
                return real.common(a);
            case "muddy":
                return real.muddy(a);
            case "backs":
                return real.backs(a);
            default:
                return answerToo(name, a, b);
        }
    }

    private long answerToo(String name, int a, int b) {
        switch (name) {
            case "gives":
                return real.gives(a);
            case "never":
                return real.never(a);
            case "question":
                return real.question(a);
            case "queries":
                return real.queries(a);
            case "spill":
                return real.spill(a);
            case "quiet":
                return real.quiet();
            case "game":
                return real.game(a, b != 0);
            case "steps":
                return real.steps(a, b);
            case "trial":
                return real.trial(a);
            case "span":
                return real.span(a, b != 0);
            case "nth":
                return real.nth(a, b);
            case "guess":
                return real.guess(a);
            case "right":
                return real.right(a);
            case "rows":
                return real.rows(a);
            case "liars":
                return real.liars(a, b != 0);
            case "married":
                return real.married(a);
            case "led":
                return real.led(a);
            case "widest":
                return real.widest();
            case "under":
                return real.under();
            case "log":
                return real.log(a, b);
            case "seed":
                return real.seed(a);
            case "undo":
                return real.undo() ? 1 : 0;
            case "image":
                real.image();
                return 0;
            case "back":
                return real.back() ? 1 : 0;
            case "count":
                return real.count(a);
            default:
                throw new IllegalArgumentException(name);
        }
    }
}
