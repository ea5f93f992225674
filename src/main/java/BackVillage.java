import java.util.Arrays;
import java.util.NoSuchElementException;

/** People with notices on their backs, and what each of them knows of the worlds that are left. */
public final class BackVillage {
    public static final int NONE = -1;

    private static final int IMPOSSIBLE = -2;
    private static final int TOO_MANY = -3;
    private static final int MOST_TEXTS = 12;
    private static final int MOST_STEPS = 30;
    private static final int MOST_NUMBER = 9;
    private static final int MOST_REMEMBERED = 8;
    private static final int SEEDS_TRIED = 6;

    private final Tape tape = new Tape();
    private final Mind mind = new Mind();
    private final Acts acts = new Acts(mind);
    private final Puzzles puzzles = new Puzzles(mind);
    private final VillageReader villageReader = new VillageReader(mind);
    private final LawReader lawReader = new LawReader();
    private final State[] past = new State[MOST_REMEMBERED];
    private int pastNext;
    private int pastCount;
    private State now = new State();
    // texts and trials happen here first, so that a wrong text or a trial leaves nothing behind
    private State draft = new State();
    private State kept;
    private int wrongByte = NONE;

    public BackVillage() {
    }

    public int feed(int a, int b, int c, int d, int e) {
        if (!tape.hasRoomFor(20)) {
            return NONE;
        }
        tape.put(a);
        tape.put(b);
        tape.put(c);
        tape.put(d);
        tape.put(e);
        return tape.size();
    }

    public boolean end(int n) {
        return tape.cut(n);
    }

    public int village() throws IllegalArgumentException, UnsupportedOperationException {
        int length = tape.use();
        draft.become(now);
        villageReader.open(tape, length);
        villageReader.aimAt(draft);
        int lines = villageReader.readLines(VillageReader.MOST_LINES);
        wrongByte = villageReader.wrong();
        if (lines == NONE) {
            throw new IllegalArgumentException("the text of the village is wrong");
        }
        if (now.texts >= MOST_TEXTS) {
            throw new UnsupportedOperationException("there are 12 texts");
        }
        draft.texts++;
        State before = now;
        now = draft;
        draft = before;
        forgetPast();
        return now.texts;
    }

    public int law() throws IllegalArgumentException {
        int length = tape.use();
        lawReader.open(tape, length);
        lawReader.startAnew();
        int lines = lawReader.readLines(LawReader.MOST_LINES);
        wrongByte = lawReader.wrong();
        if (lines == NONE) {
            throw new IllegalArgumentException("the text of the law is wrong");
        }
        now.rule = lawReader.made(lines);
        forgetPast();
        return lines;
    }

    public int fault() {
        return wrongByte;
    }

    public int person(int person, int what) throws IndexOutOfBoundsException, NoSuchElementException {
        needPerson(person);
        switch (what) {
            case 0:
                return now.figure(now.world, person);
            case 1:
                return now.sights.at(person);
            case 2:
                return now.seers(person);
            case 3:
                return mind.isSure(now, now.stays, person, now.world) ? 1 : 0;
            case 4:
                return mind.holds(now, person);
            case 5:
                return mind.knownBits(now, person);
            default:
                throw new NoSuchElementException("there is no such thing to be told of a person");
        }
    }

    public boolean left(int world) throws IndexOutOfBoundsException {
        needWorld(world);
        return now.stands(world);
    }

    public boolean apart(int person, int world, int other)
            throws IndexOutOfBoundsException, IllegalStateException {
        needPerson(person);
        needWorld(world);
        needWorld(other);
        needLeft(world);
        needLeft(other);
        return now.group(person, world) != now.group(person, other);
    }

    public boolean sure(int person, int world) throws IndexOutOfBoundsException, IllegalStateException {
        needPerson(person);
        needWorld(world);
        needLeft(world);
        return mind.isSure(now, now.stays, person, world);
    }

    public int manner(int who, int whom, int world)
            throws IndexOutOfBoundsException, IllegalArgumentException, IllegalStateException {
        needPerson(who);
        needPerson(whom);
        needWorld(world);
        needTwo(who, whom);
        needLeft(world);
        needSight(who, whom);
        mind.meet(now, who, whom);
        return mind.mannerIn(world);
    }

    public int treat(int who, int whom, boolean all)
            throws IndexOutOfBoundsException, IllegalArgumentException, IllegalStateException {
        needPerson(who);
        needPerson(whom);
        needTwo(who, whom);
        needSight(who, whom);
        remember();
        return acts.treatOne(now, who, whom, all);
    }

    public int turn(int who, int whom) throws IndexOutOfBoundsException {
        needPerson(who);
        needPerson(whom);
        remember();
        return acts.turnTo(now, who, whom);
    }

    public boolean ask(int person) throws IndexOutOfBoundsException {
        needPerson(person);
        remember();
        return acts.askOne(now, person);
    }

    public int day() {
        remember();
        return acts.askAll(now);
    }

    public int read(int person) throws IndexOutOfBoundsException {
        needPerson(person);
        remember();
        return acts.readOut(now, person);
    }

    public int claim(int n, int notice)
            throws IndexOutOfBoundsException, IllegalArgumentException, IllegalStateException {
        needNotice(notice);
        needNumber(n, 0, MOST_NUMBER);
        if (now.many(now.world, notice) < n) {
            throw new IllegalStateException("so many do not have it");
        }
        remember();
        return acts.claimMany(now, n, notice);
    }

    public int query(int who, int whose, int notice) throws IndexOutOfBoundsException {
        needPerson(who);
        needPerson(whose);
        needNotice(notice);
        remember();
        return acts.queryOne(now, who, whose, notice);
    }

    public int stroll(int n) throws IllegalArgumentException {
        needNumber(n, 1, MOST_STEPS);
        remember();
        return acts.strollBy(now, n);
    }

    public int possible(int person, int whose) throws IndexOutOfBoundsException {
        needPerson(person);
        needPerson(whose);
        return mind.possibleBits(now, now.stays, person, whose, now.world);
    }

    public int knows(int person, int whose) throws IndexOutOfBoundsException {
        needPerson(person);
        needPerson(whose);
        return mind.onlyOne(mind.possibleBits(now, now.stays, person, whose, now.world));
    }

    public boolean thinks(int person, int other, int whose) throws IndexOutOfBoundsException {
        needPerson(person);
        needPerson(other);
        needPerson(whose);
        return mind.knowsThat(now, person, other, whose);
    }

    public int common(int whose) throws IndexOutOfBoundsException {
        needPerson(whose);
        return mind.knownByAll(now, whose);
    }

    public int muddy(int person) throws IndexOutOfBoundsException {
        needPersonOrNone(person);
        return mind.daysUntilSure(now, person);
    }

    public int backs(int person) throws IndexOutOfBoundsException {
        needPerson(person);
        return puzzles.fewestBacks(now, person);
    }

    public int gives(int person) throws IndexOutOfBoundsException {
        needPerson(person);
        return mind.whoGivesAway(now, person);
    }

    public int never(int person) throws IndexOutOfBoundsException {
        needPerson(person);
        return mind.whoNeverGivesAway(now, person);
    }

    public int question(int person) throws IndexOutOfBoundsException {
        needPerson(person);
        return puzzles.firstQuestion(now, person);
    }

    public int queries(int person) throws IndexOutOfBoundsException {
        needPerson(person);
        return puzzles.fewestQueries(now, person);
    }

    public int spill(int person) throws IndexOutOfBoundsException {
        needPerson(person);
        return mind.spilledBy(now, person);
    }

    public int quiet() {
        int bits = 0;
        for (int p = 0; p < now.people; p++) {
            if (mind.spilledBy(now, p) == 0) {
                bits |= 1 << p;
            }
        }
        return bits;
    }

    public int game(int person, boolean whom) throws IndexOutOfBoundsException {
        needPerson(person);
        return puzzles.playGame(now, person, whom);
    }

    public int steps(int from, int to) throws IndexOutOfBoundsException {
        needPerson(from);
        needPerson(to);
        return puzzles.stepsBetween(now, from, to);
    }

    public int trial(int n) throws IllegalArgumentException {
        needNumber(n, 0, MOST_STEPS);
        return sureBehindStroll(n, now.seed);
    }

    public int span(int n, boolean most) throws IllegalArgumentException {
        needNumber(n, 0, MOST_STEPS);
        int best = Integer.bitCount(sureBehindStroll(n, 1));
        for (int seed = 2; seed <= SEEDS_TRIED; seed++) {
            int many = Integer.bitCount(sureBehindStroll(n, seed));
            best = most ? Math.max(best, many) : Math.min(best, many);
        }
        return best;
    }

    public int nth(int person, int k) throws IndexOutOfBoundsException {
        needPersonOrNone(person);
        return mind.heldAt(now, person, k);
    }

    public int guess(int person) throws IndexOutOfBoundsException {
        needPerson(person);
        return mind.guessIn(now, person, now.world);
    }

    public int right(int person) throws IndexOutOfBoundsException {
        needPersonOrNone(person);
        return mind.rightGuesses(now, person);
    }

    public int rows(int k) throws IllegalArgumentException {
        int length = tape.use();
        if (!puzzles.tellsPairs(now, tape, length) || k < NONE) {
            throw new IllegalArgumentException("the tape tells no pairs, or k is none");
        }
        return puzzles.standInRow(now, tape, length, k);
    }

    public int liars(int k, boolean who) throws IllegalArgumentException {
        int length = tape.use();
        if (!puzzles.tellsSayings(now, tape, length) || k < 0 || k > MOST_NUMBER) {
            throw new IllegalArgumentException("the tape tells no sayings, or k is none");
        }
        return puzzles.whoLied(now, tape, length, k, who);
    }

    public int married(int person) throws IndexOutOfBoundsException {
        needPersonOrNone(person);
        return puzzles.marry(now, person);
    }

    public int led(int person) throws IndexOutOfBoundsException {
        needPerson(person);
        int oldest = NONE;
        for (int ago = 0; ago < now.logged; ago++) {
            if ((now.noted(ago, 4) >> person & 1) == 0) {
                return oldest;
            }
            oldest = ago;
        }
        return oldest;
    }

    public int widest() {
        int best = NONE;
        int most = 0;
        for (int p = 0; p < now.people; p++) {
            int many = mind.holds(now, p);
            if (many > most) {
                most = many;
                best = p;
            }
        }
        return best;
    }

    public int under() {
        int best = NONE;
        int fewest = 0;
        for (int p = 0; p < now.people; p++) {
            int many = mind.manyPossible(now, p);
            if (best == NONE || many < fewest) {
                fewest = many;
                best = p;
            }
        }
        return best;
    }

    public int log(int ago, int what) throws NoSuchElementException {
        if (what < 0 || what >= State.ROW) {
            throw new NoSuchElementException("there is no such thing to be told of a row");
        }
        return now.noted(ago, what);
    }

    public int seed(int n) {
        int before = now.seed;
        now.seed = n;
        return before;
    }

    public boolean undo() {
        if (pastCount < 1) {
            return false;
        }
        pastCount--;
        pastNext = pastNext > 0 ? pastNext - 1 : MOST_REMEMBERED - 1;
        now.become(pastAt(pastNext));
        // what was undone was done nevertheless: values and person stay closed
        now.closed = true;
        return true;
    }

    public void image() {
        if (kept == null) {
            kept = new State();
        }
        kept.become(now);
    }

    public boolean back() {
        if (kept == null) {
            return false;
        }
        now.become(kept);
        forgetPast();
        return true;
    }

    public int count(int what) {
        switch (what) {
            case 0:
                return now.people;
            case 1:
                return now.values;
            case 2:
                return now.texts;
            case 3:
                return now.rule == null ? NONE : now.rule.lines();
            case 4:
                return now.day;
            case 5:
                return now.worlds;
            case 6:
                return mind.manyLeft(now);
            case 7:
                return now.world;
            case 8:
                return mind.sureBits(now, now.stays);
            case 9:
                return now.logged;
            case 10:
                return pastCount;
            default:
                return NONE;
        }
    }

    private void needPerson(int person) {
        if (!now.hasPerson(person)) {
            throw new IndexOutOfBoundsException("there is no such person");
        }
    }

    private void needPersonOrNone(int person) {
        if (person != NONE) {
            needPerson(person);
        }
    }

    private void needNotice(int notice) {
        if (!now.hasNotice(notice)) {
            throw new IndexOutOfBoundsException("there is no such notice");
        }
    }

    private void needWorld(int world) {
        if (!now.hasWorld(world)) {
            throw new IndexOutOfBoundsException("there is no such world");
        }
    }

    private void needLeft(int world) {
        if (!now.stands(world)) {
            throw new IllegalStateException("the world is left no more");
        }
    }

    private void needTwo(int who, int whom) {
        if (who == whom) {
            throw new IllegalArgumentException("both are one");
        }
    }

    private void needSight(int who, int whom) {
        if (!now.hasSight(who, whom)) {
            throw new IllegalStateException("one does not see the other");
        }
    }

    private void needNumber(int n, int least, int most) {
        if (n < least || n > most) {
            throw new IllegalArgumentException("the number is none");
        }
    }

    /** Keeps what is ahead of an act, so that it can be undone. */
    private void remember() {
        State copy = pastAt(pastNext);
        copy.become(now);
        pastNext = pastNext + 1 < MOST_REMEMBERED ? pastNext + 1 : 0;
        pastCount = Math.min(pastCount + 1, MOST_REMEMBERED);
        now.closed = true;
    }

    private State pastAt(int index) {
        if (index < 0 || index >= past.length) {
            return draft;
        }
        if (past[index] == null) {
            past[index] = new State();
        }
        return past[index];
    }

    private void forgetPast() {
        pastCount = 0;
    }

    private int sureBehindStroll(int n, int seed) {
        draft.become(now);
        draft.seed = seed;
        acts.strollBy(draft, n);
        return mind.sureBits(draft, draft.stays);
    }

    /** Whole numbers in a row; outside of it all are 0, and nothing is put there. */
    private static final class Cells {
        private int[] cells;

        Cells(int length) {
            cells = new int[Math.max(0, length)];
        }

        int at(int index) {
            return index >= 0 && index < cells.length ? cells[index] : 0;
        }

        void put(int index, int value) {
            if (index >= 0 && index < cells.length) {
                cells[index] = value;
            }
        }

        void addBits(int index, int bits) {
            put(index, at(index) | bits);
        }

        void grow(int length) {
            if (length > cells.length) {
                cells = Arrays.copyOf(cells, length);
            }
        }

        void fill(int value, int length) {
            Arrays.fill(cells, 0, Math.max(0, Math.min(length, cells.length)), value);
        }

        void become(Cells other, int length) {
            if (other == null) {
                return;
            }
            int many = Math.max(0, Math.min(length, other.cells.length));
            grow(many);
            System.arraycopy(other.cells, 0, cells, 0, many);
        }
    }

    /** The bytes that were fed and not used up yet. */
    private static final class Tape {
        static final int MOST = 400;

        private final Cells bytes = new Cells(MOST);
        private int size;

        int size() {
            return size;
        }

        boolean hasRoomFor(int more) {
            return size + more <= MOST;
        }

        void put(int number) {
            for (int shift = 24; shift >= 0; shift -= 8) {
                if (size < MOST) {
                    bytes.put(size, number >>> shift & 255);
                    size++;
                }
            }
        }

        boolean cut(int n) {
            if (n < 0 || n > size) {
                return false;
            }
            size = n;
            return true;
        }

        /** The bytes can still be looked at until new ones come. */
        int use() {
            int length = size;
            size = 0;
            return length;
        }

        int byteAt(int index) {
            return bytes.at(index);
        }
    }

    /** A law, as steps of a machine with a pile: a number is put on the pile, a sign works on its top. */
    private static final class Law {
        static final int THEIRS = 1000;
        static final int WHO = 1001;
        static final int WHOM = 1002;
        static final int DAY = 1003;
        static final int SURE = 1004;
        static final int SEEN = 1005;
        static final int FACTS = 6;
        static final int PLUS = 2000;
        static final int LESS = 2001;
        static final int MORE = 2002;
        static final int NOT = 2003;
        static final int AND = 2004;
        static final int OR = 2005;
        static final int ACT = 2006;

        private final int[] code;
        private final int lines;

        Law(int[] code, int lines) {
            this.code = code;
            this.lines = lines;
        }

        int lines() {
            return lines;
        }

        /** The sum of all lines that hold, if the facts are these. */
        int total(Cells facts, Cells pile) {
            int sum = 0;
            int top = 0;
            for (int i = 0; i < code.length; i++) {
                int step = code[i];
                if (step < THEIRS) {
                    pile.put(top, step);
                    top++;
                } else if (step < PLUS) {
                    pile.put(top, facts.at(step - THEIRS));
                    top++;
                } else if (step == NOT) {
                    pile.put(top - 1, 1 - pile.at(top - 1));
                } else {
                    int under = pile.at(top - 2);
                    int upper = pile.at(top - 1);
                    if (step == ACT) {
                        sum += under == 1 ? upper : 0;
                        top -= 2;
                    } else {
                        pile.put(top - 2, joined(step, under, upper));
                        top--;
                    }
                }
            }
            return sum;
        }

        private static int joined(int step, int under, int upper) {
            switch (step) {
                case PLUS:
                    return under + upper;
                case LESS:
                    return under < upper ? 1 : 0;
                case MORE:
                    return under > upper ? 1 : 0;
                case AND:
                    return under & upper;
                default:
                    return under | upper;
            }
        }
    }

    /** All that is so at one time, but for the tape, the fault and what is remembered. */
    private static final class State {
        static final int MOST_PEOPLE = 9;
        static final int MOST_WORLDS = 512;
        static final int MOST_LOGGED = 60;
        static final int ROW = 5;

        int values = 2;
        int people;
        int worlds = 1;
        int world;
        int day;
        int seed = 1;
        int texts;
        // once true, values and person cannot be told any more
        boolean closed;
        Law rule;
        // how much one step of a person's notice counts in a world's code
        final Cells units = new Cells(MOST_PEOPLE);
        final Cells sights = new Cells(MOST_PEOPLE);
        final Cells stays = new Cells(1);
        // worlds that are left and one's groups of which are unlike are told apart by that one
        final Cells groups = new Cells(0);
        private final Cells record = new Cells(0);
        int logged;
        private int logNext;

        State() {
            stays.put(0, 1);
        }

        void become(State other) {
            if (other == null || other == this) {
                return;
            }
            values = other.values;
            people = other.people;
            worlds = other.worlds;
            world = other.world;
            day = other.day;
            seed = other.seed;
            texts = other.texts;
            closed = other.closed;
            rule = other.rule;
            logged = other.logged;
            logNext = other.logNext;
            units.become(other.units, people);
            sights.become(other.sights, people);
            stays.become(other.stays, worlds);
            groups.become(other.groups, people * worlds);
            record.become(other.record, MOST_LOGGED * ROW);
        }

        boolean hasPerson(int person) {
            return person >= 0 && person < people;
        }

        boolean hasNotice(int notice) {
            return notice >= 0 && notice < values;
        }

        boolean hasWorld(int code) {
            return code >= 0 && code < worlds;
        }

        boolean hasSight(int who, int whom) {
            return hasPerson(whom) && (sights.at(who) >> whom & 1) == 1;
        }

        boolean stands(int code) {
            return stays.at(code) == 1;
        }

        int seers(int whom) {
            int bits = 0;
            for (int p = 0; p < people; p++) {
                if (hasSight(p, whom)) {
                    bits |= 1 << p;
                }
            }
            return bits;
        }

        /** The notice of a person in a world. */
        int figure(int code, int person) {
            int unit = units.at(person);
            return unit > 0 && values > 0 ? code / unit % values : 0;
        }

        int many(int code, int notice) {
            int many = 0;
            for (int p = 0; p < people; p++) {
                if (figure(code, p) == notice) {
                    many++;
                }
            }
            return many;
        }

        int group(int person, int code) {
            return groups.at(person * worlds + code);
        }

        boolean hasRoom() {
            return people < MOST_PEOPLE && worlds * values <= MOST_WORLDS;
        }

        /** One person more; nothing is known of anybody by then, so that all worlds are left. */
        void join(int notice) {
            for (int p = 0; p < people; p++) {
                units.put(p, units.at(p) * values);
            }
            units.put(people, 1);
            sights.put(people, 0);
            people++;
            worlds *= values;
            world = world * values + notice;
            stays.grow(worlds);
            stays.fill(1, worlds);
            groups.grow(people * worlds);
            groups.fill(0, people * worlds);
        }

        int draw() {
            seed = 1103515245 * seed + 12345;
            return seed >>> 16 & 0x7FFF;
        }

        void note(int kind, int who, int whom, int came, int sureBits) {
            record.grow(MOST_LOGGED * ROW);
            int begin = logNext * ROW;
            record.put(begin, kind);
            record.put(begin + 1, who);
            record.put(begin + 2, whom);
            record.put(begin + 3, came);
            record.put(begin + 4, sureBits);
            logNext = logNext + 1 < MOST_LOGGED ? logNext + 1 : 0;
            logged = Math.min(logged + 1, MOST_LOGGED);
        }

        int noted(int ago, int what) {
            if (ago < 0 || ago >= logged) {
                return NONE;
            }
            int row = logNext - 1 - ago;
            return record.at((row < 0 ? row + MOST_LOGGED : row) * ROW + what);
        }
    }

    /** Cuts a text into things that can stand in one, and reads its lines one behind another. */
    private abstract static class TextReader {
        static final int END = 0;
        static final int BAD = 1;
        static final int NUMBER = 2;
        // a sign stands for itself, words come behind all signs
        static final int VALUES = 301;
        static final int PERSON = 302;
        static final int SEES = 303;
        static final int LEAST = 304;
        static final int MOST = 305;
        static final int HAVE = 306;
        static final int ALIKE = 307;
        static final int UNLIKE = 308;
        static final int ACT = 309;
        static final int IF = 310;
        static final int OR = 311;
        static final int AND = 312;
        static final int NOT = 313;
        static final int SURE = 314;
        static final int SEEN = 315;
        static final int THEIRS = 316;
        static final int WHO = 317;
        static final int WHOM = 318;
        static final int DAY = 319;

        private static final int MOST_DIGITS = 3;

        private final int[] kinds = new int[Tape.MOST];
        private final int[] begins = new int[Tape.MOST];
        private final int[] numbers = new int[Tape.MOST];
        private int count;
        private int place;
        private Tape text;
        private int length;
        private int wrong = NONE;
        // the thing that comes next
        int kind;
        int begin;
        int number;

        abstract boolean readLine();

        /** The first wrong byte of the latest text; NONE if it was right. */
        int wrong() {
            return wrong;
        }

        /** How many lines there are; NONE if the text is wrong. */
        int readLines(int most) {
            if (kind == END) {
                return 0;
            }
            for (int lines = 1; lines <= most; lines++) {
                if (!readLine()) {
                    return NONE;
                }
                if (kind == END) {
                    return lines;
                }
                if (!take(';')) {
                    return NONE;
                }
            }
            wrongAt(begin);
            return NONE;
        }

        void open(Tape from, int bytes) {
            text = from;
            length = bytes;
            wrong = NONE;
            count = 0;
            int at = 0;
            while (at < length) {
                int end = endOfThing(at);
                if (byteAt(at) != ' ') {
                    keep(at, end);
                }
                at = Math.max(end, at + 1);
            }
            place = 0;
            step();
        }

        private int endOfThing(int at) {
            int end = at + 1;
            if (isLetter(byteAt(at))) {
                while (end < length && isLetter(byteAt(end))) {
                    end++;
                }
            } else if (isDigit(byteAt(at))) {
                while (end < length && isDigit(byteAt(end))) {
                    end++;
                }
            }
            return end;
        }

        private void keep(int at, int end) {
            if (count >= kinds.length || count >= begins.length || count >= numbers.length) {
                return;
            }
            begins[count] = at;
            numbers[count] = 0;
            if (isLetter(byteAt(at))) {
                kinds[count] = kindOfWord(at, end);
            } else if (isDigit(byteAt(at))) {
                kinds[count] = end - at <= MOST_DIGITS ? NUMBER : BAD;
                numbers[count] = valueOf(at, Math.min(end, at + MOST_DIGITS));
            } else {
                // a byte below all signs must not be taken for an end or a number
                kinds[count] = byteAt(at) > ' ' ? byteAt(at) : BAD;
            }
            count++;
        }

        private int valueOf(int at, int end) {
            int value = 0;
            for (int i = at; i < end; i++) {
                value = value * 10 + byteAt(i) - '0';
            }
            return value;
        }

        private int kindOfWord(int at, int end) {
            if (isWord(at, end, "values")) {
                return VALUES;
            } else if (isWord(at, end, "person")) {
                return PERSON;
            } else if (isWord(at, end, "sees")) {
                return SEES;
            } else if (isWord(at, end, "least")) {
                return LEAST;
            } else if (isWord(at, end, "most")) {
                return MOST;
            } else if (isWord(at, end, "have")) {
                return HAVE;
            } else if (isWord(at, end, "alike")) {
                return ALIKE;
            } else if (isWord(at, end, "unlike")) {
                return UNLIKE;
            } else if (isWord(at, end, "act")) {
                return ACT;
            } else if (isWord(at, end, "if")) {
                return IF;
            } else if (isWord(at, end, "or")) {
                return OR;
            } else if (isWord(at, end, "and")) {
                return AND;
            } else if (isWord(at, end, "not")) {
                return NOT;
            } else if (isWord(at, end, "sure")) {
                return SURE;
            } else if (isWord(at, end, "seen")) {
                return SEEN;
            } else if (isWord(at, end, "theirs")) {
                return THEIRS;
            } else if (isWord(at, end, "who")) {
                return WHO;
            } else if (isWord(at, end, "whom")) {
                return WHOM;
            }
            return isWord(at, end, "day") ? DAY : BAD;
        }

        private boolean isWord(int at, int end, String word) {
            if (end - at != word.length()) {
                return false;
            }
            for (int i = 0; i < word.length(); i++) {
                if (byteAt(at + i) != word.charAt(i)) {
                    return false;
                }
            }
            return true;
        }

        private int byteAt(int index) {
            return text == null ? 0 : text.byteAt(index);
        }

        private static boolean isLetter(int sign) {
            return sign >= 'a' && sign <= 'z';
        }

        private static boolean isDigit(int sign) {
            return sign >= '0' && sign <= '9';
        }

        /** Goes on to the next thing; behind the last one the end comes, at the text's length. */
        void step() {
            if (place < count && place < kinds.length && place < begins.length && place < numbers.length) {
                kind = kinds[place];
                begin = begins[place];
                number = numbers[place];
                place++;
            } else {
                kind = END;
                begin = length;
            }
        }

        boolean wrongAt(int first) {
            wrong = first;
            return false;
        }

        boolean take(int wanted) {
            if (kind != wanted) {
                return wrongAt(begin);
            }
            step();
            return true;
        }

        boolean takeNumber(int least, int most) {
            if (kind != NUMBER || number < least || number > most) {
                return wrongAt(begin);
            }
            step();
            return true;
        }
    }

    /** Reads a text of the village into a state. */
    private static final class VillageReader extends TextReader {
        static final int MOST_LINES = 14;

        private final Mind mind;
        private State state;
        private int first;
        private int second;

        VillageReader(Mind mind) {
            this.mind = mind;
        }

        void aimAt(State into) {
            state = into;
        }

        boolean readLine() {
            int start = begin;
            int word = kind;
            if (state == null || word < VALUES) {
                return wrongAt(start);
            }
            step();
            switch (word) {
                case VALUES:
                    return readValues(start);
                case PERSON:
                    return readPerson(start);
                case SEES:
                    return readSees();
                case LEAST:
                case MOST:
                    return readLimit(start, word == LEAST);
                case ALIKE:
                case UNLIKE:
                    return readMatch(start, word == ALIKE);
                default:
                    return wrongAt(start);
            }
        }

        private boolean readValues(int start) {
            if (state.closed || state.people > 0) {
                return wrongAt(start);
            }
            int told = number;
            if (!takeNumber(2, 4)) {
                return false;
            }
            state.values = told;
            return true;
        }

        private boolean readPerson(int start) {
            if (state.closed || !state.hasRoom()) {
                return wrongAt(start);
            }
            int notice = number;
            if (!takeNumber(0, state.values - 1)) {
                return false;
            }
            state.join(notice);
            return true;
        }

        private boolean readSees() {
            if (!readTwo()) {
                return false;
            }
            mind.look(state, first, second);
            state.closed = true;
            return true;
        }

        private boolean readLimit(int start, boolean least) {
            int many = number;
            if (!takeNumber(0, MOST_NUMBER) || !take(HAVE)) {
                return false;
            }
            int notice = number;
            if (!takeNumber(0, state.values - 1)) {
                return false;
            }
            mind.sayWhetherMany(state, many, notice, least);
            return tellAll(start);
        }

        private boolean readMatch(int start, boolean alike) {
            if (!readTwo()) {
                return false;
            }
            mind.sayWhetherAlike(state, first, second, alike);
            return tellAll(start);
        }

        private boolean readTwo() {
            first = number;
            if (!takeNumber(0, state.people - 1)) {
                return false;
            }
            second = number;
            int start = begin;
            return takeNumber(0, state.people - 1) && (first != second || wrongAt(start));
        }

        /** All know from now on that it is so; a line that is not so in THE WORLD is wrong. */
        private boolean tellAll(int start) {
            if (mind.saidIn(state.world) == 0) {
                return wrongAt(start);
            }
            mind.heed(state, state.stays);
            state.closed = true;
            return true;
        }
    }

    /** Reads a text of the law. */
    private static final class LawReader extends TextReader {
        static final int MOST_LINES = 12;

        private static final int MOST_DEEP = 6;
        private static final int MOST_VALUE = 999;
        // above what a text of 400 bytes can need
        private static final int MOST_CODE = 512;

        private final int[] code = new int[MOST_CODE];
        private int size;

        void startAnew() {
            size = 0;
        }

        Law made(int lines) {
            return new Law(Arrays.copyOf(code, Math.max(0, Math.min(size, code.length))), lines);
        }

        boolean readLine() {
            if (!take(ACT)) {
                return false;
            }
            int amount = number;
            if (!takeNumber(0, MOST_VALUE)) {
                return false;
            }
            if (kind == IF) {
                step();
                if (!readAny(0)) {
                    return false;
                }
            } else {
                add(1);
            }
            add(amount);
            return add(Law.ACT);
        }

        private boolean readAny(int deep) {
            if (!readAll(deep)) {
                return false;
            }
            for (int n = 0; n < Tape.MOST && kind == OR; n++) {
                step();
                if (!readAll(deep)) {
                    return false;
                }
                add(Law.OR);
            }
            return true;
        }

        private boolean readAll(int deep) {
            if (!readAtom(deep)) {
                return false;
            }
            for (int n = 0; n < Tape.MOST && kind == AND; n++) {
                step();
                if (!readAtom(deep)) {
                    return false;
                }
                add(Law.AND);
            }
            return true;
        }

        private boolean readAtom(int deep) {
            if (kind == NOT || kind == '(') {
                if (deep >= MOST_DEEP) {
                    return wrongAt(begin);
                }
                boolean negated = kind == NOT;
                step();
                return negated ? readAtom(deep + 1) && add(Law.NOT) : readAny(deep + 1) && take(')');
            }
            if (kind == SURE || kind == SEEN) {
                add(kind == SURE ? Law.SURE : Law.SEEN);
                step();
                return true;
            }
            if (!readSum()) {
                return false;
            }
            if (kind != '<' && kind != '>') {
                return wrongAt(begin);
            }
            int compared = kind == '<' ? Law.LESS : Law.MORE;
            step();
            return readSum() && add(compared);
        }

        private boolean readSum() {
            for (int parts = 0; parts < Tape.MOST; parts++) {
                int part = partNext();
                if (part == NONE) {
                    return wrongAt(begin);
                }
                add(part);
                step();
                if (parts > 0) {
                    add(Law.PLUS);
                }
                if (kind != '+') {
                    return true;
                }
                step();
            }
            return wrongAt(begin);
        }

        private int partNext() {
            switch (kind) {
                case NUMBER:
                    return number;
                case THEIRS:
                    return Law.THEIRS;
                case WHO:
                    return Law.WHO;
                case WHOM:
                    return Law.WHOM;
                case DAY:
                    return Law.DAY;
                default:
                    return NONE;
            }
        }

        private boolean add(int step) {
            if (size < code.length) {
                code[size] = step;
                size++;
            }
            return true;
        }
    }

    /** What people know in a state, also if fewer worlds stayed than are left in it. */
    private static final class Mind {
        // a manner is told by its first cause: one of 4 notices, SURE or not
        private static final int CAUSES = 8;
        private static final int MOST_DAYS = 40;
        private static final int PILE = 64;

        private final Cells table = new Cells(State.MOST_WORLDS * CAUSES);
        private final Cells masks = new Cells(State.MOST_WORLDS);
        private final Cells marks = new Cells(State.MOST_WORLDS);
        private final Cells says = new Cells(State.MOST_WORLDS);
        private final Cells spare = new Cells(State.MOST_WORLDS);
        private final Cells manners = new Cells(CAUSES);
        private final Cells firsts = new Cells(CAUSES);
        private final Cells facts = new Cells(Law.FACTS);
        private final Cells pile = new Cells(PILE);

        // ---- what one knows

        int possibleBits(State s, Cells stays, int person, int whose, int world) {
            int group = s.group(person, world);
            int bits = 0;
            for (int w = 0; w < s.worlds; w++) {
                if (stays.at(w) == 1 && s.group(person, w) == group) {
                    bits |= 1 << s.figure(w, whose);
                }
            }
            return bits;
        }

        int onlyOne(int bits) {
            return Integer.bitCount(bits) == 1 ? Integer.numberOfTrailingZeros(bits) : NONE;
        }

        boolean isSure(State s, Cells stays, int person, int world) {
            return onlyOne(possibleBits(s, stays, person, person, world)) != NONE;
        }

        int sureBits(State s, Cells stays) {
            int bits = 0;
            for (int p = 0; p < s.people; p++) {
                if (onlyOne(possibleBits(s, stays, p, p, s.world)) != NONE) {
                    bits |= 1 << p;
                }
            }
            return bits;
        }

        int knownBits(State s, int person) {
            int bits = 0;
            for (int q = 0; q < s.people; q++) {
                if (onlyOne(possibleBits(s, s.stays, person, q, s.world)) != NONE) {
                    bits |= 1 << q;
                }
            }
            return bits;
        }

        int manyPossible(State s, int person) {
            int many = 0;
            for (int q = 0; q < s.people; q++) {
                many += Integer.bitCount(possibleBits(s, s.stays, person, q, s.world));
            }
            return many;
        }

        int manyLeft(State s) {
            int many = 0;
            for (int w = 0; w < s.worlds; w++) {
                many += s.stands(w) ? 1 : 0;
            }
            return many;
        }

        int holds(State s, int person) {
            int many = 0;
            for (int w = 0; w < s.worlds; w++) {
                many += holdsWorld(s, person, w) ? 1 : 0;
            }
            return many;
        }

        private boolean holdsWorld(State s, int person, int world) {
            return s.stands(world) && s.group(person, world) == s.group(person, s.world);
        }

        /** The k-th world that one holds, or, of NONE, that is left. */
        int heldAt(State s, int person, int k) {
            int before = 0;
            for (int w = 0; w < s.worlds; w++) {
                if (person == NONE ? s.stands(w) : holdsWorld(s, person, w)) {
                    if (before == k) {
                        return w;
                    }
                    before++;
                }
            }
            return NONE;
        }

        boolean knowsThat(State s, int person, int other, int whose) {
            spot(s, s.stays, other, whose);
            for (int w = 0; w < s.worlds; w++) {
                if (holdsWorld(s, person, w) && onlyOne(spotted(s, other, w)) == NONE) {
                    return false;
                }
            }
            return true;
        }

        /** For each group of a person's: the notices that somebody has in its worlds. */
        private void spot(State s, Cells stays, int person, int whose) {
            masks.fill(0, s.worlds);
            for (int w = 0; w < s.worlds; w++) {
                if (stays.at(w) == 1) {
                    masks.addBits(s.group(person, w), 1 << s.figure(w, whose));
                }
            }
        }

        private int spotted(State s, int person, int world) {
            return masks.at(s.group(person, world));
        }

        // ---- what all know

        int knownByAll(State s, int whose) {
            spare.fill(0, s.worlds);
            spare.put(s.world, 1);
            boolean grown = true;
            for (int n = 0; n < s.worlds && grown; n++) {
                grown = false;
                for (int p = 0; p < s.people; p++) {
                    grown |= spread(s, p);
                }
            }
            int bits = 0;
            for (int w = 0; w < s.worlds; w++) {
                if (spare.at(w) == 1) {
                    bits |= 1 << s.figure(w, whose);
                }
            }
            return onlyOne(bits);
        }

        /** Comes from all worlds reached to those that a person does not tell apart. */
        private boolean spread(State s, int person) {
            masks.fill(0, s.worlds);
            for (int w = 0; w < s.worlds; w++) {
                if (spare.at(w) == 1) {
                    masks.put(s.group(person, w), 1);
                }
            }
            boolean grown = false;
            for (int w = 0; w < s.worlds; w++) {
                if (s.stands(w) && spare.at(w) == 0 && spotted(s, person, w) == 1) {
                    spare.put(w, 1);
                    grown = true;
                }
            }
            return grown;
        }

        // ---- what is said before all: an answer for each world, of which that of THE WORLD is heard

        void sayNotice(State s, int whose) {
            for (int w = 0; w < s.worlds; w++) {
                says.put(w, s.figure(w, whose));
            }
        }

        void sayWhetherMany(State s, int many, int notice, boolean least) {
            for (int w = 0; w < s.worlds; w++) {
                int found = s.many(w, notice);
                says.put(w, (least ? found >= many : found <= many) ? 1 : 0);
            }
        }

        void sayWhetherAlike(State s, int one, int other, boolean alike) {
            for (int w = 0; w < s.worlds; w++) {
                says.put(w, (s.figure(w, one) == s.figure(w, other)) == alike ? 1 : 0);
            }
        }

        void sayWhetherSure(State s, int person) {
            spot(s, s.stays, person, person);
            for (int w = 0; w < s.worlds; w++) {
                says.put(w, onlyOne(spotted(s, person, w)) == NONE ? 0 : 1);
            }
        }

        void sayWhoIsSure(State s, Cells stays) {
            says.fill(0, s.worlds);
            for (int p = 0; p < s.people; p++) {
                spot(s, stays, p, p);
                for (int w = 0; w < s.worlds; w++) {
                    if (onlyOne(spotted(s, p, w)) != NONE) {
                        says.addBits(w, 1 << p);
                    }
                }
            }
        }

        void sayAnswer(State s, Cells stays, int who, int whose, int notice) {
            spot(s, stays, who, whose);
            int told = 1 << notice;
            for (int w = 0; w < s.worlds; w++) {
                int bits = spotted(s, who, w);
                says.put(w, bits == told ? 1 : (bits & told) == 0 ? 0 : 2);
            }
        }

        int saidIn(int world) {
            return says.at(world);
        }

        /** Whether one would be sure behind what is said. */
        boolean sureIfHeard(State s, Cells stays, int person) {
            int group = s.group(person, s.world);
            int heard = says.at(s.world);
            int bits = 0;
            for (int w = 0; w < s.worlds; w++) {
                if (stays.at(w) == 1 && says.at(w) == heard && s.group(person, w) == group) {
                    bits |= 1 << s.figure(w, person);
                }
            }
            return onlyOne(bits) != NONE;
        }

        /** Worlds in which something else would be said stay no more; whether there were any. */
        boolean heed(State s, Cells stays) {
            int heard = says.at(s.world);
            boolean fewer = false;
            for (int w = 0; w < s.worlds; w++) {
                if (stays.at(w) == 1 && says.at(w) != heard) {
                    stays.put(w, 0);
                    fewer = true;
                }
            }
            return fewer;
        }

        int daysUntilSure(State s, int person) {
            spare.become(s.stays, s.worlds);
            for (int days = 0; days <= MOST_DAYS; days++) {
                int bits = sureBits(s, spare);
                if (person == NONE ? bits != 0 : (bits >> person & 1) == 1) {
                    return days;
                }
                sayWhoIsSure(s, spare);
                if (!heed(s, spare)) {
                    // a day that takes no world is as all days behind it
                    return NONE;
                }
            }
            return NONE;
        }

        int spilledBy(State s, int whose) {
            sayNotice(s, whose);
            int bits = 0;
            for (int p = 0; p < s.people; p++) {
                if (!isSure(s, s.stays, p, s.world) && sureIfHeard(s, s.stays, p)) {
                    bits |= 1 << p;
                }
            }
            return bits;
        }

        // ---- how one treats another one

        /** Marks each world that is left by the manner of who to whom in it. */
        void meet(State s, int who, int whom) {
            facts.put(Law.WHO - Law.THEIRS, who);
            facts.put(Law.WHOM - Law.THEIRS, whom);
            facts.put(Law.DAY - Law.THEIRS, s.day);
            facts.put(Law.SEEN - Law.THEIRS, s.hasSight(whom, who) ? 1 : 0);
            for (int cause = 0; cause < CAUSES; cause++) {
                facts.put(0, cause >> 1);
                facts.put(Law.SURE - Law.THEIRS, cause & 1);
                manners.put(cause, s.rule == null ? 0 : s.rule.total(facts, pile));
                firsts.put(cause, firstLike(cause));
            }
            spot(s, s.stays, who, who);
            for (int w = 0; w < s.worlds; w++) {
                int sureBit = onlyOne(spotted(s, who, w)) == NONE ? 0 : 1;
                marks.put(w, firsts.at(s.figure(w, whom) << 1 | sureBit));
            }
        }

        private int firstLike(int cause) {
            for (int c = 0; c < cause; c++) {
                if (manners.at(c) == manners.at(cause)) {
                    return c;
                }
            }
            return cause;
        }

        int mannerIn(int world) {
            return manners.at(marks.at(world));
        }

        /** One sees another one's back from now on. */
        void look(State s, int who, int whom) {
            s.sights.addBits(who, 1 << whom);
            for (int w = 0; w < s.worlds; w++) {
                marks.put(w, s.figure(w, whom));
            }
            split(s, who);
        }

        /** One tells apart worlds that are marked unlike from now on. */
        void split(State s, int person) {
            table.fill(NONE, s.worlds * CAUSES);
            int next = 0;
            for (int w = 0; w < s.worlds; w++) {
                if (s.stands(w)) {
                    int key = s.group(person, w) * CAUSES + marks.at(w);
                    if (table.at(key) == NONE) {
                        table.put(key, next);
                        next++;
                    }
                    s.groups.put(person * s.worlds + w, table.at(key));
                }
            }
        }

        int whoGivesAway(State s, int person) {
            int bits = 0;
            for (int p = 0; p < s.people; p++) {
                if (p != person && s.hasSight(p, person)) {
                    weigh(s, p, person);
                    if (onlyOne(weighed(s, person, s.world)) != NONE) {
                        bits |= 1 << p;
                    }
                }
            }
            return bits;
        }

        int whoNeverGivesAway(State s, int person) {
            int bits = 0;
            for (int p = 0; p < s.people; p++) {
                if (p != person && s.hasSight(p, person)) {
                    weigh(s, p, person);
                    if (!makesSureSomewhere(s, person)) {
                        bits |= 1 << p;
                    }
                }
            }
            return bits;
        }

        private boolean makesSureSomewhere(State s, int person) {
            spot(s, s.stays, person, person);
            for (int w = 0; w < s.worlds; w++) {
                if (s.stands(w) && onlyOne(spotted(s, person, w)) == NONE
                        && onlyOne(weighed(s, person, w)) != NONE) {
                    return true;
                }
            }
            return false;
        }

        /** The notices of one's own that one would hold to be possible behind being treated. */
        private void weigh(State s, int who, int whom) {
            meet(s, who, whom);
            table.fill(0, s.worlds * CAUSES);
            for (int w = 0; w < s.worlds; w++) {
                if (s.stands(w)) {
                    table.addBits(s.group(whom, w) * CAUSES + marks.at(w), 1 << s.figure(w, whom));
                }
            }
        }

        private int weighed(State s, int whom, int world) {
            return table.at(s.group(whom, world) * CAUSES + marks.at(world));
        }

        // ---- the best guess

        int guessIn(State s, int person, int world) {
            tally(s, person);
            return bestIn(s, person, world);
        }

        int rightGuesses(State s, int person) {
            says.become(s.stays, s.worlds);
            for (int p = 0; p < s.people; p++) {
                if (person == NONE || person == p) {
                    tally(s, p);
                    strikeWrong(s, p);
                }
            }
            int many = 0;
            for (int w = 0; w < s.worlds; w++) {
                many += says.at(w);
            }
            return many;
        }

        private void strikeWrong(State s, int person) {
            for (int w = 0; w < s.worlds; w++) {
                if (says.at(w) == 1 && bestIn(s, person, w) != s.figure(w, person)) {
                    says.put(w, 0);
                }
            }
        }

        /** For each group of one's: in how many of its worlds one has each notice. */
        private void tally(State s, int person) {
            table.fill(0, s.worlds * CAUSES);
            for (int w = 0; w < s.worlds; w++) {
                if (s.stands(w)) {
                    int key = s.group(person, w) * CAUSES + s.figure(w, person);
                    table.put(key, table.at(key) + 1);
                }
            }
        }

        private int bestIn(State s, int person, int world) {
            int begin = s.group(person, world) * CAUSES;
            int best = 0;
            for (int v = 1; v < s.values; v++) {
                if (table.at(begin + v) > table.at(begin + best)) {
                    best = v;
                }
            }
            return best;
        }
    }

    /** What is done in a state; each of these is noted in its log. */
    private static final class Acts {
        private static final int PRIVATELY = 0;
        private static final int BEFORE_ALL = 1;
        private static final int TURNED = 2;
        private static final int ASKED = 3;
        private static final int DAY = 4;
        private static final int READ_OUT = 5;
        private static final int CLAIMED = 6;
        private static final int QUERIED = 7;

        private final Mind mind;

        Acts(Mind mind) {
            this.mind = mind;
        }

        int treatOne(State s, int who, int whom, boolean all) {
            mind.meet(s, who, whom);
            int came = mind.mannerIn(s.world);
            for (int p = 0; p < s.people; p++) {
                if (all || p == whom) {
                    mind.split(s, p);
                }
            }
            s.note(all ? BEFORE_ALL : PRIVATELY, who, whom, came, mind.sureBits(s, s.stays));
            return came;
        }

        int turnTo(State s, int who, int whom) {
            mind.look(s, who, whom);
            int came = s.figure(s.world, whom);
            s.note(TURNED, who, whom, came, mind.sureBits(s, s.stays));
            return came;
        }

        boolean askOne(State s, int person) {
            mind.sayWhetherSure(s, person);
            int came = heardByAll(s);
            s.note(ASKED, person, NONE, came, mind.sureBits(s, s.stays));
            return came == 1;
        }

        int askAll(State s) {
            mind.sayWhoIsSure(s, s.stays);
            int came = heardByAll(s);
            s.day++;
            s.note(DAY, NONE, NONE, came, mind.sureBits(s, s.stays));
            return came;
        }

        int readOut(State s, int person) {
            mind.sayNotice(s, person);
            int came = heardByAll(s);
            s.note(READ_OUT, person, NONE, came, mind.sureBits(s, s.stays));
            return came;
        }

        /** It is so in THE WORLD, which the caller has looked at. */
        int claimMany(State s, int n, int notice) {
            mind.sayWhetherMany(s, n, notice, true);
            heardByAll(s);
            s.note(CLAIMED, notice, NONE, n, mind.sureBits(s, s.stays));
            return s.many(s.world, notice);
        }

        int queryOne(State s, int who, int whose, int notice) {
            mind.sayAnswer(s, s.stays, who, whose, notice);
            int came = heardByAll(s);
            s.note(QUERIED, who, whose, came, mind.sureBits(s, s.stays));
            return came;
        }

        int strollBy(State s, int n) {
            if (s.people < 1) {
                return 0;
            }
            int treated = 0;
            for (int i = 0; i < n; i++) {
                int who = s.draw() % s.people;
                int whom = s.draw() % s.people;
                if (who != whom && s.hasSight(who, whom)) {
                    treatOne(s, who, whom, false);
                    treated++;
                }
            }
            return treated;
        }

        private int heardByAll(State s) {
            mind.heed(s, s.stays);
            return mind.saidIn(s.world);
        }
    }

    /** What has to be searched for; nothing is changed by it. */
    private static final class Puzzles {
        private static final int SETS = 1 << State.MOST_PEOPLE;
        private static final int MOST_QUERIED = 6;
        private static final int MOST_IN_ROW = 7;
        private static final int FIRST_BYTE = 97;

        private final Mind mind;
        private final Cells doubts = new Cells(State.MOST_WORLDS);
        private int doubtCount;
        private final Cells sets = new Cells(SETS);
        private final Cells wins = new Cells(SETS);
        private final Cells friends = new Cells(State.MOST_PEOPLE);
        private final Cells spare = new Cells(State.MOST_WORLDS);

        Puzzles(Mind mind) {
            this.mind = mind;
        }

        // ---- backs read out

        int fewestBacks(State s, int person) {
            gatherDoubts(s, person);
            int best = IMPOSSIBLE;
            for (int set = 0; set < 1 << s.people; set++) {
                boolean fewer = best == IMPOSSIBLE || Integer.bitCount(set) < Integer.bitCount(best);
                if (fewer && (set >> person & 1) == 0 && settles(set)) {
                    best = set;
                }
            }
            return best;
        }

        /** A doubt is a world that one holds and has another notice in: as bits, who else has another one there. */
        private void gatherDoubts(State s, int person) {
            doubtCount = 0;
            int group = s.group(person, s.world);
            for (int w = 0; w < s.worlds; w++) {
                if (s.stands(w) && s.group(person, w) == group
                        && s.figure(w, person) != s.figure(s.world, person)) {
                    doubts.put(doubtCount, unlikeBits(s, w));
                    doubtCount++;
                }
            }
        }

        private int unlikeBits(State s, int world) {
            int bits = 0;
            for (int p = 0; p < s.people; p++) {
                if (s.figure(world, p) != s.figure(s.world, p)) {
                    bits |= 1 << p;
                }
            }
            return bits;
        }

        /** Whether no doubt is left, if the backs of a set are read out. */
        private boolean settles(int set) {
            for (int i = 0; i < doubtCount; i++) {
                if ((doubts.at(i) & set) == 0) {
                    return false;
                }
            }
            return true;
        }

        int playGame(State s, int person, boolean whom) {
            gatherDoubts(s, person);
            if (settles(0)) {
                return IMPOSSIBLE;
            }
            int all = 1 << s.people;
            for (int set = 0; set < all; set++) {
                sets.put(set, settles(set) ? 1 : 0);
            }
            int first = NONE;
            // of a set read out what comes of all larger ones is there already
            for (int set = all - 1; set >= 0; set--) {
                first = (set >> person & 1) == 0 ? bestMove(s, person, set) : NONE;
            }
            return whom ? first : wins.at(0);
        }

        /** Whom the one at turn reads out best, if a set was read out; what comes of it is kept. */
        private int bestMove(State s, int person, int set) {
            int best = NONE;
            int most = 0;
            for (int p = 0; p < s.people; p++) {
                if (p != person && (set >> p & 1) == 0) {
                    int then = set | 1 << p;
                    int value = sets.at(then) == 1 ? -1 : -wins.at(then);
                    if (best == NONE || value > most) {
                        best = p;
                        most = value;
                    }
                }
            }
            wins.put(set, most);
            return best;
        }

        // ---- queries

        int firstQuestion(State s, int person) {
            if (mind.isSure(s, s.stays, person, s.world)) {
                return NONE;
            }
            return questionIn(s, s.stays, person);
        }

        private int questionIn(State s, Cells stays, int person) {
            for (int who = 0; who < s.people; who++) {
                for (int whose = 0; whose < s.people; whose++) {
                    for (int v = 0; v < s.values && who != person && whose != person; v++) {
                        mind.sayAnswer(s, stays, who, whose, v);
                        if (mind.sureIfHeard(s, stays, person)) {
                            return 100 * who + 10 * whose + v;
                        }
                    }
                }
            }
            return NONE;
        }

        int fewestQueries(State s, int person) {
            if (s.people > MOST_QUERIED) {
                return TOO_MANY;
            }
            if (mind.isSure(s, s.stays, person, s.world)) {
                return 0;
            }
            if (questionIn(s, s.stays, person) != NONE) {
                return 1;
            }
            return sureByTwo(s, person) ? 2 : NONE;
        }

        private boolean sureByTwo(State s, int person) {
            for (int who = 0; who < s.people; who++) {
                for (int whose = 0; whose < s.people; whose++) {
                    for (int v = 0; v < s.values && who != person && whose != person; v++) {
                        spare.become(s.stays, s.worlds);
                        mind.sayAnswer(s, spare, who, whose, v);
                        if (mind.heed(s, spare) && questionIn(s, spare, person) != NONE) {
                            return true;
                        }
                    }
                }
            }
            return false;
        }

        // ---- who stands where

        int stepsBetween(State s, int from, int to) {
            int reached = 1 << from;
            for (int many = 0; many < s.people; many++) {
                if ((reached >> to & 1) == 1) {
                    return many;
                }
                int next = reached;
                for (int p = 0; p < s.people; p++) {
                    if ((reached >> p & 1) == 1) {
                        next |= s.sights.at(p);
                    }
                }
                reached = next;
            }
            return NONE;
        }

        boolean tellsPairs(State s, Tape told, int length) {
            for (int i = 0; i + 2 < length; i += 3) {
                int who = personAt(told, i);
                int whom = personAt(told, i + 1);
                if (!s.hasPerson(who) || !s.hasPerson(whom) || who == whom || told.byteAt(i + 2) > 1) {
                    return false;
                }
            }
            return length % 3 == 0;
        }

        private int personAt(Tape told, int index) {
            return told.byteAt(index) - FIRST_BYTE;
        }

        int standInRow(State s, Tape told, int length, int k) {
            if (s.people > MOST_IN_ROW) {
                return TOO_MANY;
            }
            gatherPairs(s, told, length);
            int all = (1 << s.people) - 1;
            sets.put(all, 1);
            for (int set = all - 1; set >= 0; set--) {
                int many = 0;
                for (int p = 0; p < s.people; p++) {
                    many += mayFollow(set, p) ? sets.at(set | 1 << p) : 0;
                }
                sets.put(set, many);
            }
            return k == NONE ? sets.at(0) : placeInRow(s, k);
        }

        /** Of each person, who must stand behind: the row is built from the last one on. */
        private void gatherPairs(State s, Tape told, int length) {
            friends.fill(0, s.people);
            for (int i = 0; i + 2 < length; i += 3) {
                int who = personAt(told, i);
                int whom = personAt(told, i + 1);
                if (told.byteAt(i + 2) == 1) {
                    friends.addBits(whom, 1 << who);
                } else {
                    friends.addBits(who, 1 << whom);
                }
            }
        }

        private boolean mayFollow(int set, int person) {
            return (set >> person & 1) == 0 && (friends.at(person) & ~set) == 0;
        }

        private int placeInRow(State s, int k) {
            int set = 0;
            for (int place = 0; place < s.people; place++) {
                int next = NONE;
                for (int p = s.people - 1; p >= 0; p--) {
                    if (mayFollow(set, p) && sets.at(set | 1 << p) > 0) {
                        next = p;
                    }
                }
                if (next == NONE || place == k) {
                    return next;
                }
                set |= 1 << next;
            }
            return NONE;
        }

        // ---- liars

        boolean tellsSayings(State s, Tape told, int length) {
            for (int i = 0; i + 2 < length; i += 3) {
                if (!s.hasPerson(personAt(told, i)) || !s.hasPerson(personAt(told, i + 1))
                        || !s.hasNotice(told.byteAt(i + 2))) {
                    return false;
                }
            }
            return length % 3 == 0;
        }

        int whoLied(State s, Tape told, int length, int most, boolean who) {
            int many = 0;
            int all = 0;
            for (int w = 0; w < s.worlds; w++) {
                int bits = s.stands(w) ? liarsIn(s, told, length, w) : 0;
                if (s.stands(w) && Integer.bitCount(bits) <= most) {
                    many++;
                    all |= bits;
                }
            }
            return who ? all : many;
        }

        private int liarsIn(State s, Tape told, int length, int world) {
            int bits = 0;
            for (int i = 0; i + 2 < length; i += 3) {
                if (s.figure(world, personAt(told, i + 1)) != told.byteAt(i + 2)) {
                    bits |= 1 << personAt(told, i);
                }
            }
            return bits;
        }

        // ---- marriages

        int marry(State s, int person) {
            gatherFriends(s);
            int all = 1 << s.people;
            sets.put(0, 0);
            for (int set = 1; set < all; set++) {
                int one = Integer.numberOfTrailingZeros(set);
                int best = sets.at(set & ~(1 << one));
                for (int p = one + 1; p < s.people; p++) {
                    if (mayPair(set, one, p)) {
                        best = Math.max(best, 1 + sets.at(set & ~(1 << one | 1 << p)));
                    }
                }
                sets.put(set, best);
            }
            return person == NONE ? sets.at(all - 1) : partnerOf(s, person);
        }

        private void gatherFriends(State s) {
            for (int p = 0; p < s.people; p++) {
                friends.put(p, mind.knownBits(s, p));
            }
        }

        private boolean mayPair(int set, int one, int other) {
            return (set >> other & 1) == 1 && (friends.at(one) >> other & 1) == 1
                    && (friends.at(other) >> one & 1) == 1;
        }

        private int partnerOf(State s, int person) {
            int free = (1 << s.people) - 1;
            for (int one = 0; one < s.people; one++) {
                if ((free >> one & 1) == 0) {
                    continue;
                }
                int other = NONE;
                for (int p = s.people - 1; p > one; p--) {
                    if (mayPair(free, one, p)
                            && 1 + sets.at(free & ~(1 << one | 1 << p)) == sets.at(free)) {
                        other = p;
                    }
                }
                if (one == person || other == person) {
                    return one == person ? other : one;
                }
                free &= ~(1 << one | (other == NONE ? 0 : 1 << other));
            }
            return NONE;
        }
    }
}
