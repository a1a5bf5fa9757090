import java.util.Arrays;

/**
 * A town in which some are awake by day, some by night and some at dawn and dusk. The document
 * ../shared/DOC.md numbers what each public method promises; all rows are made once, with the
 * object, so that no call makes anything.
 */
public final class HingeTown {
    public static final int NONE = -1;

    /** Bliss and joy may well be -1, so that another number has to say that there is none. */
    private static final int NO_BLISS = -1000000;
    private static final int FEED_BYTES = 20;
    private static final int BOXES = 3;

    private final Tape tape = new Tape();
    private final Reader reader = new Reader(tape);
    private final Street street = new Street();
    private final Acts acts = new Acts();
    private final Choice choice = new Choice();
    private final Lights lights = new Lights();
    private final int[] boxes = new int[BOXES * State.SIZE];
    private int boxesFull;
    private final int[] lying = new int[Plan.PERSONS];
    private int lyingCount;

    public HingeTown() {
        acts.forgetAll(street.state);
    }

    public int feed(int a, int b, int c, int d, int e) {
        if (tape.length > Tape.MOST - FEED_BYTES) {
            return NONE;
        }
        tape.add(a);
        tape.add(b);
        tape.add(c);
        tape.add(d);
        tape.add(e);
        return tape.length;
    }

    public int end(int n) {
        if (n < 0 || n > tape.length) {
            return NONE;
        }
        tape.length = n;
        return n;
    }

    public int town() {
        boolean fine = reader.readTown();
        tape.length = 0;
        if (!fine) {
            return NONE;
        }
        street.settle(reader.giveFor(street.plan));
        acts.forgetAll(street.state);
        lights.forgetAll();
        lyingCount = 0;
        boxesFull = 0;
        return street.plan.persons;
    }

    public int fault(int what) {
        switch (what) {
            case 0: return reader.fault;
            case 1: return reader.place;
            default: return NONE;
        }
    }

    public int person(int person, int what) {
        if (!street.hasPerson(person)) {
            return NONE;
        }
        State now = street.state;
        switch (what) {
            case 0: return street.plan.houses[person];
            case 1: return now.sides[person];
            case 2: return street.isQuiet(person) ? 1 : 0;
            case 3: return street.isAwake(person, street.today(), now.hour) ? 1 : 0;
            case 4: return now.suffered[person];
            case 5: return street.plan.wakefulOf(person);
            case 6: return street.harmAt(person, street.today(), now.hour);
            default: return NONE;
        }
    }

    public int meet(int meet, int what) {
        if (!street.hasMeet(meet)) {
            return NONE;
        }
        switch (what) {
            case 0: return street.plan.ones[meet];
            case 1: return street.plan.others[meet];
            case 2: return street.plan.hours[meet];
            case 3: return street.plan.worths[meet];
            case 4: return street.state.together[meet];
            case 5: return street.state.met[meet];
            case 6: return street.canMeet(meet, street.today()) ? 1 : 0;
            default: return NONE;
        }
    }

    public int light(int date, int what) {
        if (!isDate(date)) {
            return NONE;
        }
        switch (what) {
            case 0: return street.dayOf(date).dawn;
            case 1: return street.dayOf(date).dusk;
            default: return NONE;
        }
    }

    public int awake(int date, int hour) {
        boolean fine = isDate(date) && isHour(hour);
        return fine ? street.whoIsAwake(street.dayOf(date), hour) : NONE;
    }

    public int noise(int person, int hour) {
        if (!street.hasPerson(person) || !isHour(hour)) {
            return NONE;
        }
        int noise = street.plan.noiseOf(person, hour);
        return noise == NONE ? 0 : street.plan.louds[noise];
    }

    public int go(int person, int side) {
        if (!street.hasPerson(person) || side < 0 || side >= Street.SIDES) {
            return NONE;
        }
        int before = street.state.sides[person];
        if (before == side) {
            return NONE;
        }
        street.state.sides[person] = side;
        acts.keep(street.state);
        return before;
    }

    public int hush(int person) {
        if (!street.hasPerson(person)) {
            return NONE;
        }
        street.state.quiet ^= 1 << person;
        acts.keep(street.state);
        return street.isQuiet(person) ? 1 : 0;
    }

    public int hour() {
        int harm = street.passHour();
        acts.keep(street.state);
        return harm;
    }

    public boolean undo() {
        return acts.stepBack(street.state);
    }

    public boolean redo() {
        return acts.stepOn(street.state);
    }

    public int common(int person, int other, int date) {
        boolean fine = street.hasPerson(person) && street.hasPerson(other) && isDate(date);
        return fine ? street.hoursTogether(person, other, street.dayOf(date)) : NONE;
    }

    public int can(int date) {
        if (!isDate(date)) {
            return NONE;
        }
        int which = 0;
        for (int m = 0; m < street.plan.meets; m++) {
            which |= street.canMeet(m, street.dayOf(date)) ? 1 << m : 0;
        }
        return which;
    }

    public int never(int meet) {
        if (!street.hasMeet(meet)) {
            return NONE;
        }
        for (int i = 0; i < Street.DATES; i++) {
            int date = (street.state.date + i) % Street.DATES;
            if (!street.canMeet(meet, street.dayOf(date))) {
                return date;
            }
        }
        return NONE;
    }

    public int dates(int meet) {
        if (!street.hasMeet(meet)) {
            return NONE;
        }
        int count = 0;
        for (int date = 0; date < Street.DATES; date++) {
            count += street.canMeet(meet, street.dayOf(date)) ? 1 : 0;
        }
        return count;
    }

    public int harmed(int person, int date) {
        boolean fine = street.hasPerson(person) && isDate(date);
        return fine ? street.harmOn(person, street.dayOf(date)) : NONE;
    }

    public int bliss(int date) {
        return isDate(date) ? street.blissOf(street.dayOf(date)) : NO_BLISS;
    }

    public int cut() {
        choice.weigh(street);
        int best = choice.bestForAll(lying);
        lyingCount = street.plan.persons;
        return best;
    }

    public int joy(int person, int date) {
        boolean fine = street.hasPerson(person) && isDate(date);
        return fine ? street.joyOf(person, street.dayOf(date)) : NO_BLISS;
    }

    public int lonely(int date) {
        if (!isDate(date)) {
            return NONE;
        }
        int alone = street.everybody();
        for (int m = 0; m < street.plan.meets; m++) {
            if (street.canMeet(m, street.dayOf(date))) {
                alone &= ~street.plan.bothOf(m);
            }
        }
        return alone;
    }

    public int hinges(int date) {
        if (!isDate(date)) {
            return NONE;
        }
        int hours = Street.ALL_HOURS;
        for (int p = 0; p < street.plan.persons; p++) {
            hours &= street.hoursAwake(p, street.dayOf(date));
        }
        return hours;
    }

    public int loudest(int date, int what) {
        if (!isDate(date) || what < 0 || what > 1) {
            return NONE;
        }
        int who = NONE;
        int most = NONE;
        for (int p = 0; p < street.plan.persons; p++) {
            int harm = street.isQuiet(p) ? NONE : street.harmBy(p, street.dayOf(date));
            if (harm > most) {
                who = p;
                most = harm;
            }
        }
        return what == 0 ? who : most;
    }

    public int rest() {
        choice.weigh(street);
        int rounds = choice.comeToRest(lying);
        lyingCount = rounds == NONE ? 0 : street.plan.persons;
        return rounds;
    }

    public int shop(int what) {
        if (what < 0 || what > 1 || street.plan.persons == 0) {
            return NONE;
        }
        for (int length = 1; length <= Street.HOURS; length++) {
            for (int from = 0; from + length <= Street.HOURS; from++) {
                if (street.allServed(from, length)) {
                    return what == 0 ? from : length;
                }
            }
        }
        return NONE;
    }

    public int post(int person, int other) {
        boolean fine = street.hasPerson(person) && street.hasPerson(other);
        return fine ? Letters.hoursTo(street, person, other) : NONE;
    }

    public int spread(int person, int n) {
        boolean fine = street.hasPerson(person) && n >= 0 && n <= Letters.MOST_HOURS;
        return fine ? Letters.whoHasIt(street, person, n) : NONE;
    }

    public int wake(int person, int other, int what) {
        if (!street.hasPerson(person) || !street.hasPerson(other) || person == other) {
            return NONE;
        }
        if (what < 0 || what > 1) {
            return NONE;
        }
        int woken = Letters.fewestWoken(street, person, other);
        return woken == NONE || what == 1 ? woken : Integer.bitCount(woken);
    }

    public int odds(int meet, int date, int part) {
        if (!street.hasMeet(meet) || !isDate(date) || part < 0 || part > 1) {
            return NONE;
        }
        int upper = street.chancesToMeet(meet, street.dayOf(date));
        int divisor = greatestDivisor(upper, Street.ALL_CHANCES);
        if (divisor == 0) {
            return NONE;
        }
        return (part == 0 ? upper : Street.ALL_CHANCES) / divisor;
    }

    public int lies(int i) {
        return i >= 0 && i < lyingCount && i < lying.length ? lying[i] : NONE;
    }

    public int lit(int house, int hour, boolean is) {
        return isHouse(house) && isHour(hour) ? lights.tell(house, hour, is) : NONE;
    }

    public boolean untell(int lit) {
        return lights.takeBack(lit);
    }

    public int later(int by) {
        return lights.goOn(by);
    }

    public int fits(int k) {
        lights.lookAt(street, k);
        return lights.ways;
    }

    public int sure(int person, int k) {
        if (!street.hasPerson(person)) {
            return NONE;
        }
        lights.lookAt(street, k);
        return lights.sideOf(person);
    }

    public int ask(int house, int what, int k) {
        if (!isHouse(house) || what < 0 || what > 1) {
            return NONE;
        }
        lights.lookAt(street, k);
        if (lights.ways == 0) {
            return NONE;
        }
        int hour = lights.bestHour(street, house);
        return what == 0 ? hour : lights.mostLeft(street, house, hour);
    }

    public int image(int box) {
        if (!isBox(box)) {
            return NONE;
        }
        street.state.save(boxes, box * State.SIZE);
        boxesFull |= 1 << box;
        return street.state.date;
    }

    public int back(int box) {
        if (!isBox(box) || (boxesFull >> box & 1) == 0) {
            return NONE;
        }
        street.state.load(boxes, box * State.SIZE);
        acts.forgetAll(street.state);
        return street.state.date;
    }

    public int about(int what) {
        switch (what) {
            case 0: return street.plan.persons;
            case 1: return street.plan.meets;
            case 2: return street.plan.noises;
            case 3: return street.state.hour;
            case 4: return street.state.date;
            case 5: return street.state.quiet;
            case 6: return acts.past;
            case 7: return acts.future;
            case 8: return lights.count;
            case 9: return lights.time;
            case 10: return tape.length;
            case 11: return street.plan.units;
            case 12: return lyingCount;
            default: return NONE;
        }
    }

    private static boolean isDate(int date) {
        return date >= 0 && date < Street.DATES;
    }

    private static boolean isHour(int hour) {
        return hour >= 0 && hour < Street.HOURS;
    }

    private static boolean isHouse(int house) {
        return house >= 0 && house < Plan.HOUSES;
    }

    private static boolean isBox(int box) {
        return box >= 0 && box < BOXES;
    }

    private static int greatestDivisor(int a, int b) {
        int greater = a;
        int lesser = b;
        for (int i = 0; i < 64 && lesser != 0; i++) {
            int left = greater % lesser;
            greater = lesser;
            lesser = left;
        }
        return greater;
    }

    /**
     * The bytes fed since the last town, and the token at which they are read. A sign's kind is its
     * byte, so that the grammar reads as it is written in the document.
     */
    private static final class Tape {
        static final int MOST = 1600;
        static final int BAD = 0;
        static final int END = 1;
        static final int NAME = 2;
        static final int NUMBER = 3;
        /** Kinds of words that stand for themselves begin above all signs. */
        static final int WORD = 128;
        static final int PERSON = WORD;
        static final int MEET = WORD + 1;
        static final int NOISE = WORD + 2;
        static final int WAKEFUL = WORD + 3;
        static final int DAWN = WORD + 4;
        static final int DUSK = WORD + 5;
        static final int HARM = WORD + 6;
        static final int DATE = WORD + 7;
        static final int AT = WORD + 8;
        static final int NIGHT = WORD + 9;
        static final int HINGE = WORD + 10;
        static final int HOURS = WORD + 11;
        static final int WORTH = WORD + 12;
        static final int LOUD = WORD + 13;
        static final int HOUR = WORD + 14;
        static final int FAR = WORD + 15;
        static final int OR = WORD + 16;
        static final int AND = WORD + 17;
        static final int NOT = WORD + 18;

        private static final int WORDS = 19;
        /** In the order of the kinds above. */
        private static final String WORDS_TOLD =
            "person meet noise wakeful dawn dusk harm date at night hinge hours worth loud hour far or and not ";
        private static final String SIGNS = ";()<>=+-*/%";
        private static final int WORD_LETTERS = 8;
        private static final int NUMBER_DIGITS = 4;

        private final byte[] bytes = new byte[MOST];
        private int length;
        private final long[] words = new long[WORDS];
        private int next;
        private int kind;
        private int place;
        private int number;
        /** A word as a number, in which eight letters have room: so no text has to be made. */
        private long name;

        Tape() {
            int word = 0;
            for (int i = 0; i < WORDS_TOLD.length() && word < WORDS; i++) {
                char letter = WORDS_TOLD.charAt(i);
                if (letter == ' ') {
                    word++;
                } else {
                    words[word] = withLetter(words[word], letter);
                }
            }
        }

        void add(int four) {
            for (int shift = 24; shift >= 0; shift -= 8) {
                if (length < MOST) {
                    bytes[length] = (byte) (four >> shift);
                    length++;
                }
            }
        }

        void open() {
            next = 0;
            advance();
        }

        void advance() {
            while (next < length && (bytes[next] == ' ' || bytes[next] == '\n')) {
                next++;
            }
            place = next;
            if (next >= length) {
                kind = END;
            } else if (isLetterAt(next)) {
                readWord();
            } else if (isDigitAt(next)) {
                readNumber();
            } else {
                int sign = bytes[next] & 255;
                kind = SIGNS.indexOf((char) sign) >= 0 ? sign : BAD;
                next++;
            }
        }

        private void readWord() {
            name = 0;
            while (next < length && isLetterAt(next)) {
                name = withLetter(name, bytes[next]);
                next++;
            }
            kind = next - place > WORD_LETTERS ? BAD : NAME;
            for (int w = 0; w < WORDS && kind == NAME; w++) {
                kind = words[w] == name ? WORD + w : NAME;
            }
        }

        private void readNumber() {
            number = 0;
            while (next < length && isDigitAt(next)) {
                number = number * 10 + bytes[next] - '0';
                next++;
            }
            kind = next - place > NUMBER_DIGITS || isLetterAt(next) ? BAD : NUMBER;
        }

        private boolean isLetterAt(int i) {
            return i < length && bytes[i] >= 'a' && bytes[i] <= 'z';
        }

        private boolean isDigitAt(int i) {
            return i < length && bytes[i] >= '0' && bytes[i] <= '9';
        }

        private static long withLetter(long word, int letter) {
            return word * 27 + letter - 'a' + 1;
        }
    }

    /** One whole formula, its operators behind what they join. Codes from 0 on are numbers. */
    private static final class Formula {
        static final int DATE = -1;
        static final int HOUR = -2;
        static final int LOUD = -3;
        static final int FAR = -4;
        static final int NOT = -5;
        static final int OR = -6;
        static final int AND = -7;
        static final int LESS = -8;
        static final int MORE = -9;
        static final int SAME = -10;
        static final int PLUS = -11;
        static final int MINUS = -12;
        static final int TIMES = -13;
        static final int PER = -14;
        static final int REST = -15;

        static final int MOST_UNITS = 30;
        /** A unit each, one operator fewer than units, and two NOTs at most ahead of each unit. */
        private static final int MOST_CODES = 4 * MOST_UNITS;

        private final int[] codes = new int[MOST_CODES];
        private final int[] stack = new int[MOST_UNITS];
        private int size;
        private boolean told;

        void clear() {
            size = 0;
            told = false;
        }

        void put(int code) {
            if (size < codes.length) {
                codes[size] = code;
                size++;
            }
        }

        int valueOf(int date, int hour, int loud, int far) {
            int top = 0;
            for (int i = 0; i < size && i < codes.length; i++) {
                int code = codes[i];
                if (code > NOT && top < stack.length) {
                    stack[top] = leafOf(code, date, hour, loud, far);
                    top++;
                } else if (code == NOT && top >= 1) {
                    stack[top - 1] = stack[top - 1] == 0 ? 1 : 0;
                } else if (code < NOT && top >= 2) {
                    top--;
                    stack[top - 1] = join(code, stack[top - 1], stack[top]);
                }
            }
            return stack[0];
        }

        private static int leafOf(int code, int date, int hour, int loud, int far) {
            switch (code) {
                case DATE: return date;
                case HOUR: return hour;
                case LOUD: return loud;
                case FAR: return far;
                default: return code;
            }
        }

        private static int join(int code, int a, int b) {
            switch (code) {
                case OR: return a != 0 || b != 0 ? 1 : 0;
                case AND: return a != 0 && b != 0 ? 1 : 0;
                case LESS: return a < b ? 1 : 0;
                case MORE: return a > b ? 1 : 0;
                case SAME: return a == b ? 1 : 0;
                case PLUS: return a + b;
                case MINUS: return a - b;
                case TIMES: return a * b;
                case PER: return b == 0 ? 0 : a / b;
                case REST: return b == 0 ? 0 : a % b;
                default: return 0;
            }
        }
    }

    /** What a text tells of a town; nothing in it changes till another text is told. */
    private static final class Plan {
        static final int PERSONS = 7;
        static final int MEETS = 10;
        static final int NOISES = 8;
        static final int HOUSES = 10;
        static final int MOST_UNITS = 60;

        private int persons;
        private final long[] names = new long[PERSONS];
        private final int[] houses = new int[PERSONS];
        private final int[] sides = new int[PERSONS];
        /** NONE as long as it is not told. */
        private final int[] wakeful = new int[PERSONS];
        private int meets;
        private final int[] ones = new int[MEETS];
        private final int[] others = new int[MEETS];
        private final int[] hours = new int[MEETS];
        private final int[] worths = new int[MEETS];
        private int noises;
        private final int[] makers = new int[NOISES];
        private final int[] times = new int[NOISES];
        private final int[] louds = new int[NOISES];
        /** NONE as long as it is not told. */
        private int date = NONE;
        private final Formula dawn = new Formula();
        private final Formula dusk = new Formula();
        private final Formula harm = new Formula();
        private int units;

        void clear() {
            persons = 0;
            meets = 0;
            noises = 0;
            date = NONE;
            dawn.clear();
            dusk.clear();
            harm.clear();
            units = 0;
        }

        int find(long name) {
            for (int p = 0; p < persons; p++) {
                if (names[p] == name) {
                    return p;
                }
            }
            return NONE;
        }

        boolean hasMeetOf(int one, int other) {
            for (int m = 0; m < meets; m++) {
                if (bothOf(m) == (1 << one | 1 << other)) {
                    return true;
                }
            }
            return false;
        }

        int noiseOf(int person, int hour) {
            for (int n = 0; n < noises; n++) {
                if (makers[n] == person && times[n] == hour) {
                    return n;
                }
            }
            return NONE;
        }

        int bothOf(int meet) {
            return 1 << ones[meet] | 1 << others[meet];
        }

        int wakefulOf(int person) {
            return Math.max(wakeful[person], 0);
        }

        int whoLivesAt(int house) {
            int who = 0;
            for (int p = 0; p < persons; p++) {
                who |= houses[p] == house ? 1 << p : 0;
            }
            return who;
        }
    }

    /** Reads the tape into a spare plan, so that a fault leaves the town's own as it is. */
    private static final class Reader {
        private static final int NO_TOKEN = 1;
        private static final int MISPLACED = 2;
        private static final int TOLD_ALREADY = 3;
        private static final int NO_SUCH_NUMBER = 4;
        private static final int NO_SUCH_NAME = 5;
        private static final int MOST_AROUND = 6;

        private final Tape tape;
        private Plan plan = new Plan();
        private Formula formula = plan.dawn;
        private int unitsHere;
        private int fault;
        private int place = NONE;

        Reader(Tape tape) {
            this.tape = tape;
        }

        /** The plan that was read; the old one is written over by the next reading. */
        Plan giveFor(Plan old) {
            Plan read = plan;
            plan = old;
            return read;
        }

        boolean readTown() {
            fault = 0;
            place = NONE;
            plan.clear();
            tape.open();
            boolean fine = true;
            for (int i = 0; i < Tape.MOST && fine && tape.kind != Tape.END; i++) {
                switch (tape.kind) {
                    case Tape.PERSON: fine = readPerson(); break;
                    case Tape.MEET: fine = readMeet(); break;
                    case Tape.NOISE: fine = readNoise(); break;
                    case Tape.WAKEFUL: fine = readWakeful(); break;
                    case Tape.DAWN: fine = readFormula(plan.dawn); break;
                    case Tape.DUSK: fine = readFormula(plan.dusk); break;
                    case Tape.HARM: fine = readFormula(plan.harm); break;
                    case Tape.DATE: fine = readDate(); break;
                    default: fine = refuse(MISPLACED); break;
                }
            }
            return fine;
        }

        private boolean readPerson() {
            int p = plan.persons;
            if (p >= Plan.PERSONS) {
                return refuse(MISPLACED);
            }
            tape.advance();
            if (tape.kind != Tape.NAME) {
                return refuse(MISPLACED);
            }
            if (plan.find(tape.name) != NONE) {
                return refuse(TOLD_ALREADY);
            }
            plan.names[p] = tape.name;
            tape.advance();
            if (!isNumberBehind(Tape.AT, 0, Plan.HOUSES - 1)) {
                return false;
            }
            plan.houses[p] = tape.number;
            plan.wakeful[p] = NONE;
            tape.advance();
            plan.sides[p] = readSide();
            plan.persons++;
            return pass(';');
        }

        private int readSide() {
            int side = Street.DAY;
            if (tape.kind == Tape.NIGHT) {
                side = Street.NIGHT;
            } else if (tape.kind == Tape.HINGE) {
                side = Street.HINGE;
            }
            if (side != Street.DAY) {
                tape.advance();
            }
            return side;
        }

        private boolean readMeet() {
            int m = plan.meets;
            if (m >= Plan.MEETS) {
                return refuse(MISPLACED);
            }
            tape.advance();
            int one = personHere();
            if (one == NONE) {
                return false;
            }
            tape.advance();
            int other = personHere();
            if (other == NONE) {
                return false;
            }
            if (one == other || plan.hasMeetOf(one, other)) {
                return refuse(TOLD_ALREADY);
            }
            plan.ones[m] = one;
            plan.others[m] = other;
            tape.advance();
            if (!isNumberBehind(Tape.HOURS, 1, Street.HOURS)) {
                return false;
            }
            plan.hours[m] = tape.number;
            tape.advance();
            if (!isNumberBehind(Tape.WORTH, 1, 99)) {
                return false;
            }
            plan.worths[m] = tape.number;
            plan.meets++;
            tape.advance();
            return pass(';');
        }

        private boolean readNoise() {
            int n = plan.noises;
            if (n >= Plan.NOISES) {
                return refuse(MISPLACED);
            }
            tape.advance();
            int maker = personHere();
            if (maker == NONE) {
                return false;
            }
            tape.advance();
            if (!isNumberBehind(Tape.AT, 0, Street.HOURS - 1)) {
                return false;
            }
            if (plan.noiseOf(maker, tape.number) != NONE) {
                return refuse(TOLD_ALREADY);
            }
            plan.makers[n] = maker;
            plan.times[n] = tape.number;
            tape.advance();
            if (!isNumberBehind(Tape.LOUD, 1, 20)) {
                return false;
            }
            plan.louds[n] = tape.number;
            plan.noises++;
            tape.advance();
            return pass(';');
        }

        private boolean readWakeful() {
            tape.advance();
            int person = personHere();
            if (person == NONE) {
                return false;
            }
            if (plan.wakeful[person] != NONE) {
                return refuse(TOLD_ALREADY);
            }
            tape.advance();
            if (!isNumberHere(0, 100)) {
                return false;
            }
            plan.wakeful[person] = tape.number;
            tape.advance();
            return pass(';');
        }

        private boolean readDate() {
            if (plan.date != NONE) {
                return refuse(MISPLACED);
            }
            tape.advance();
            if (!isNumberHere(0, Street.DATES - 1)) {
                return false;
            }
            plan.date = tape.number;
            tape.advance();
            return pass(';');
        }

        private boolean readFormula(Formula into) {
            if (into.told) {
                return refuse(MISPLACED);
            }
            into.told = true;
            formula = into;
            unitsHere = 0;
            tape.advance();
            return readEither(0) && pass(';');
        }

        private boolean readEither(int around) {
            if (!readBoth(around)) {
                return false;
            }
            for (int i = 0; i < Tape.MOST && tape.kind == Tape.OR; i++) {
                tape.advance();
                if (!readBoth(around)) {
                    return false;
                }
                formula.put(Formula.OR);
            }
            return true;
        }

        private boolean readBoth(int around) {
            if (!readOne(around)) {
                return false;
            }
            for (int i = 0; i < Tape.MOST && tape.kind == Tape.AND; i++) {
                tape.advance();
                if (!readOne(around)) {
                    return false;
                }
                formula.put(Formula.AND);
            }
            return true;
        }

        private boolean readOne(int around) {
            int nots = 0;
            for (int i = 0; i < Tape.MOST && tape.kind == Tape.NOT; i++) {
                if (around + nots > MOST_AROUND) {
                    return refuse(MISPLACED);
                }
                nots++;
                tape.advance();
            }
            if (!readRelation(around + nots)) {
                return false;
            }
            // Of a 1 or 0, two NOTs make the same again: more than two never need to be kept.
            for (int i = nots > 2 ? nots - 2 + nots % 2 : 0; i < nots; i++) {
                formula.put(Formula.NOT);
            }
            return true;
        }

        private boolean readRelation(int around) {
            if (!readSum(around)) {
                return false;
            }
            int relation = relationHere();
            if (relation == 0) {
                return true;
            }
            tape.advance();
            if (!readSum(around)) {
                return false;
            }
            formula.put(relation);
            return true;
        }

        private boolean readSum(int around) {
            if (!readTerm(around)) {
                return false;
            }
            for (int i = 0; i < Tape.MOST && (tape.kind == '+' || tape.kind == '-'); i++) {
                int code = tape.kind == '+' ? Formula.PLUS : Formula.MINUS;
                tape.advance();
                if (!readTerm(around)) {
                    return false;
                }
                formula.put(code);
            }
            return true;
        }

        private boolean readTerm(int around) {
            if (!readUnit(around)) {
                return false;
            }
            int code = factorHere();
            for (int i = 0; i < Tape.MOST && code != 0; i++) {
                tape.advance();
                if (!readUnit(around)) {
                    return false;
                }
                formula.put(code);
                code = factorHere();
            }
            return true;
        }

        private boolean readUnit(int around) {
            boolean nested = tape.kind == '(';
            if (!nested && tape.kind != Tape.NUMBER && givenHere() == 0) {
                return refuse(MISPLACED);
            }
            if (plan.units >= Plan.MOST_UNITS || unitsHere >= Formula.MOST_UNITS) {
                return refuse(MISPLACED);
            }
            if (nested && around > MOST_AROUND) {
                return refuse(MISPLACED);
            }
            plan.units++;
            unitsHere++;
            if (!nested) {
                formula.put(tape.kind == Tape.NUMBER ? tape.number : givenHere());
            }
            tape.advance();
            return !nested || readEither(around + 1) && pass(')');
        }

        private int relationHere() {
            switch (tape.kind) {
                case '<': return Formula.LESS;
                case '>': return Formula.MORE;
                case '=': return Formula.SAME;
                default: return 0;
            }
        }

        private int factorHere() {
            switch (tape.kind) {
                case '*': return Formula.TIMES;
                case '/': return Formula.PER;
                case '%': return Formula.REST;
                default: return 0;
            }
        }

        private int givenHere() {
            switch (tape.kind) {
                case Tape.DATE: return Formula.DATE;
                case Tape.HOUR: return Formula.HOUR;
                case Tape.LOUD: return Formula.LOUD;
                case Tape.FAR: return Formula.FAR;
                default: return 0;
            }
        }

        private int personHere() {
            if (tape.kind != Tape.NAME) {
                refuse(MISPLACED);
                return NONE;
            }
            int person = plan.find(tape.name);
            if (person == NONE) {
                refuse(NO_SUCH_NAME);
            }
            return person;
        }

        private boolean isNumberBehind(int word, int least, int most) {
            return pass(word) && isNumberHere(least, most);
        }

        private boolean isNumberHere(int least, int most) {
            if (tape.kind != Tape.NUMBER) {
                return refuse(MISPLACED);
            }
            boolean fine = tape.number >= least && tape.number <= most;
            return fine || refuse(NO_SUCH_NUMBER);
        }

        private boolean pass(int kind) {
            if (tape.kind != kind) {
                return refuse(MISPLACED);
            }
            tape.advance();
            return true;
        }

        /** What is no token is that first of all, whatever else it could not be there. */
        private boolean refuse(int why) {
            fault = tape.kind == Tape.BAD ? NO_TOKEN : why;
            place = tape.place;
            return false;
        }
    }

    /** What acts change, and what images and kept acts hold as rows of numbers. */
    private static final class State {
        static final int SIZE = 2 * Plan.PERSONS + 2 * Plan.MEETS + 3;

        private final int[] sides = new int[Plan.PERSONS];
        private final int[] suffered = new int[Plan.PERSONS];
        private final int[] together = new int[Plan.MEETS];
        private final int[] met = new int[Plan.MEETS];
        private int quiet;
        private int hour;
        private int date;

        void begin(Plan plan) {
            System.arraycopy(plan.sides, 0, sides, 0, Plan.PERSONS);
            Arrays.fill(suffered, 0);
            Arrays.fill(together, 0);
            Arrays.fill(met, 0);
            quiet = 0;
            hour = 0;
            date = Math.max(plan.date, 0);
        }

        void save(int[] rows, int from) {
            if (from < 0 || from > rows.length - SIZE) {
                return;
            }
            int i = from;
            System.arraycopy(sides, 0, rows, i, Plan.PERSONS);
            i += Plan.PERSONS;
            System.arraycopy(suffered, 0, rows, i, Plan.PERSONS);
            i += Plan.PERSONS;
            System.arraycopy(together, 0, rows, i, Plan.MEETS);
            i += Plan.MEETS;
            System.arraycopy(met, 0, rows, i, Plan.MEETS);
            i += Plan.MEETS;
            rows[i] = quiet;
            rows[i + 1] = hour;
            rows[i + 2] = date;
        }

        void load(int[] rows, int from) {
            if (from < 0 || from > rows.length - SIZE) {
                return;
            }
            int i = from;
            System.arraycopy(rows, i, sides, 0, Plan.PERSONS);
            i += Plan.PERSONS;
            System.arraycopy(rows, i, suffered, 0, Plan.PERSONS);
            i += Plan.PERSONS;
            System.arraycopy(rows, i, together, 0, Plan.MEETS);
            i += Plan.MEETS;
            System.arraycopy(rows, i, met, 0, Plan.MEETS);
            i += Plan.MEETS;
            quiet = rows[i];
            hour = rows[i + 1];
            date = rows[i + 2];
        }
    }

    /** States before and behind each kept act, in a ring: the oldest is written over. */
    private static final class Acts {
        private static final int MOST = 40;
        private static final int ROWS = MOST + 1;

        private final int[] rows = new int[ROWS * State.SIZE];
        private int row;
        private int past;
        private int future;

        void forgetAll(State now) {
            past = 0;
            future = 0;
            now.save(rows, row * State.SIZE);
        }

        void keep(State now) {
            row = (row + 1) % ROWS;
            past = Math.min(past + 1, MOST);
            future = 0;
            now.save(rows, row * State.SIZE);
        }

        boolean stepBack(State now) {
            if (past == 0) {
                return false;
            }
            row = (row + ROWS - 1) % ROWS;
            past--;
            future++;
            now.load(rows, row * State.SIZE);
            return true;
        }

        boolean stepOn(State now) {
            if (future == 0) {
                return false;
            }
            row = (row + 1) % ROWS;
            past++;
            future--;
            now.load(rows, row * State.SIZE);
            return true;
        }
    }

    /** The light of one date, and the hours at which it keeps each side awake, as bits. */
    private static final class Day {
        private static final int HINGE_WIDTH = 2;

        private int date = NONE;
        private int dawn;
        private int dusk;
        private final int[] hours = new int[Street.SIDES];

        void become(int newDate, int newDawn, int newDusk) {
            date = newDate;
            dawn = newDawn;
            dusk = newDusk;
            hours[Street.DAY] = (1 << dusk) - (1 << dawn);
            hours[Street.NIGHT] = Street.ALL_HOURS & ~hours[Street.DAY];
            hours[Street.HINGE] = hoursAround(dawn) | hoursAround(dusk);
        }

        private static int hoursAround(int middle) {
            int around = 0;
            for (int i = -HINGE_WIDTH; i <= HINGE_WIDTH; i++) {
                around |= 1 << (middle + i + Street.HOURS) % Street.HOURS;
            }
            return around;
        }

        boolean wakes(int side, int hour) {
            return (hours[side] >> hour & 1) == 1;
        }
    }

    /** The town as told and as it is now. Who calls has looked at persons, meets and dates. */
    private static final class Street {
        static final int DAY = 0;
        static final int NIGHT = 1;
        static final int HINGE = 2;
        static final int SIDES = 3;
        static final int HOURS = 24;
        static final int DATES = 365;
        static final int ALL_HOURS = (1 << HOURS) - 1;
        /** Of two who may each lie awake by so many of a hundred. */
        static final int ALL_CHANCES = 10000;

        private static final int MOST_HARM = 99;

        private final State state = new State();
        private Plan plan = new Plan();
        private final Day day = new Day();
        /** Dawn * 32 + dusk of a date, 0 before it is asked: a year's formulas are dear. */
        private final int[] suns = new int[DATES];

        void settle(Plan told) {
            plan = told;
            day.date = NONE;
            Arrays.fill(suns, 0);
            state.begin(told);
        }

        boolean hasPerson(int person) {
            return person >= 0 && person < plan.persons;
        }

        boolean hasMeet(int meet) {
            return meet >= 0 && meet < plan.meets;
        }

        int everybody() {
            return (1 << plan.persons) - 1;
        }

        /** There is one day at a time: another date's takes the place of the one before. */
        Day dayOf(int date) {
            if (day.date != date) {
                if (suns[date] == 0) {
                    suns[date] = reckonSun(date);
                }
                day.become(date, suns[date] / 32, suns[date] % 32);
            }
            return day;
        }

        Day today() {
            return dayOf(state.date);
        }

        private int reckonSun(int date) {
            int dawn = plan.dawn.told ? plan.dawn.valueOf(date, 0, 0, 0) : 6;
            int dusk = plan.dusk.told ? plan.dusk.valueOf(date, 0, 0, 0) : 18;
            return within(dawn, 0, 11) * 32 + within(dusk, 12, 23);
        }

        private static int within(int value, int least, int most) {
            return Math.max(least, Math.min(value, most));
        }

        boolean isQuiet(int person) {
            return (state.quiet >> person & 1) == 1;
        }

        int hoursAwake(int person, Day on) {
            return on.hours[state.sides[person]];
        }

        boolean isAwake(int person, Day on, int hour) {
            return on.wakes(state.sides[person], hour);
        }

        int whoIsAwake(Day on, int hour) {
            int who = 0;
            for (int p = 0; p < plan.persons; p++) {
                who |= isAwake(p, on, hour) ? 1 << p : 0;
            }
            return who;
        }

        /** What a noise does to one who is asleep, whoever sleeps or is quiet now. */
        int hurtOf(int noise, int person, Day on) {
            int far = Math.abs(plan.houses[plan.makers[noise]] - plan.houses[person]);
            int loud = plan.louds[noise];
            int harm = loud - far;
            if (plan.harm.told) {
                harm = plan.harm.valueOf(on.date, plan.times[noise], loud, far);
            }
            return within(harm, 0, MOST_HARM);
        }

        private int harmOf(int noise, int person, Day on) {
            int maker = plan.makers[noise];
            int hour = plan.times[noise];
            boolean harms = maker != person && !isQuiet(maker)
                && isAwake(maker, on, hour) && !isAwake(person, on, hour);
            return harms ? hurtOf(noise, person, on) : 0;
        }

        int harmAt(int person, Day on, int hour) {
            int harm = 0;
            for (int n = 0; n < plan.noises; n++) {
                harm += plan.times[n] == hour ? harmOf(n, person, on) : 0;
            }
            return harm;
        }

        int harmOn(int person, Day on) {
            int harm = 0;
            for (int n = 0; n < plan.noises; n++) {
                harm += harmOf(n, person, on);
            }
            return harm;
        }

        int harmBy(int maker, Day on) {
            int harm = 0;
            for (int n = 0; n < plan.noises; n++) {
                for (int p = 0; p < plan.persons && plan.makers[n] == maker; p++) {
                    harm += harmOf(n, p, on);
                }
            }
            return harm;
        }

        int passHour() {
            Day on = today();
            int harm = 0;
            for (int p = 0; p < plan.persons; p++) {
                int his = harmAt(p, on, state.hour);
                state.suffered[p] += his;
                harm += his;
            }
            int asleep = ~whoIsAwake(on, state.hour);
            for (int m = 0; m < plan.meets; m++) {
                state.together[m] += (plan.bothOf(m) & asleep) == 0 ? 1 : 0;
            }
            state.hour++;
            if (state.hour == HOURS) {
                endDay();
            }
            return harm;
        }

        private void endDay() {
            state.hour = 0;
            state.date = (state.date + 1) % DATES;
            for (int m = 0; m < plan.meets; m++) {
                state.met[m] += state.together[m] >= plan.hours[m] ? 1 : 0;
                state.together[m] = 0;
            }
        }

        int hoursTogether(int person, int other, Day on) {
            return Integer.bitCount(hoursAwake(person, on) & hoursAwake(other, on));
        }

        boolean canMeet(int meet, Day on) {
            return hoursTogether(plan.ones[meet], plan.others[meet], on) >= plan.hours[meet];
        }

        private int worthOfMeets(int persons, Day on) {
            int worth = 0;
            for (int m = 0; m < plan.meets; m++) {
                boolean counts = (plan.bothOf(m) & persons) != 0 && canMeet(m, on);
                worth += counts ? plan.worths[m] : 0;
            }
            return worth;
        }

        int blissOf(Day on) {
            int bliss = worthOfMeets(everybody(), on);
            for (int p = 0; p < plan.persons; p++) {
                bliss -= harmOn(p, on);
            }
            return bliss;
        }

        int joyOf(int person, Day on) {
            return worthOfMeets(1 << person, on) - harmOn(person, on);
        }

        boolean allServed(int from, int length) {
            int open = (1 << from + length) - (1 << from);
            for (int p = 0; p < plan.persons; p++) {
                if ((hoursAwake(p, today()) & open) == 0) {
                    return false;
                }
            }
            return true;
        }

        int chancesToMeet(int meet, Day on) {
            int one = plan.ones[meet];
            int other = plan.others[meet];
            int chances = 0;
            for (int lying = 0; lying < 4; lying++) {
                boolean oneLies = (lying & 1) != 0;
                boolean otherLies = (lying & 2) != 0;
                int both = hoursIf(oneLies, one, on) & hoursIf(otherLies, other, on);
                if (Integer.bitCount(both) >= plan.hours[meet]) {
                    chances += chancesIf(oneLies, one) * chancesIf(otherLies, other);
                }
            }
            return chances;
        }

        private int hoursIf(boolean liesAwake, int person, Day on) {
            return liesAwake ? ALL_HOURS : hoursAwake(person, on);
        }

        private int chancesIf(boolean liesAwake, int person) {
            int wakeful = plan.wakefulOf(person);
            return liesAwake ? wakeful : 100 - wakeful;
        }
    }

    /** Which sides are best today, for all or for each, from weights between any two. */
    private static final class Choice {
        private static final int PLACES = Plan.PERSONS * Street.SIDES;
        private static final int MOST_TRIALS = 2187;
        private static final int MOST_ROUNDS = 20;

        private int persons;
        private final int[] now = new int[Plan.PERSONS];
        /** By one on a side, another one on a side: what that gives the first, or both together. */
        private final int[] joys = new int[PLACES * PLACES];
        private final int[] blisses = new int[PLACES * PLACES];
        private final int[] trial = new int[Plan.PERSONS];
        /** Bliss and changes of the trial's first so many persons. */
        private final int[] blissUpTo = new int[Plan.PERSONS + 1];
        private final int[] changesUpTo = new int[Plan.PERSONS + 1];

        void weigh(Street street) {
            Day today = street.today();
            persons = street.plan.persons;
            System.arraycopy(street.state.sides, 0, now, 0, now.length);
            Arrays.fill(joys, 0);
            Arrays.fill(blisses, 0);
            for (int m = 0; m < street.plan.meets; m++) {
                weighMeet(street.plan, m, today);
            }
            for (int n = 0; n < street.plan.noises; n++) {
                boolean quiet = street.isQuiet(street.plan.makers[n]);
                for (int p = 0; p < persons && !quiet; p++) {
                    weighNoise(street, n, p, today);
                }
            }
        }

        private void weighMeet(Plan plan, int meet, Day today) {
            for (int i = 0; i < Street.SIDES * Street.SIDES; i++) {
                int side = i / Street.SIDES;
                int otherSide = i % Street.SIDES;
                int both = today.hours[side] & today.hours[otherSide];
                if (Integer.bitCount(both) >= plan.hours[meet]) {
                    int one = placeOf(plan.ones[meet], side);
                    int other = placeOf(plan.others[meet], otherSide);
                    int worth = plan.worths[meet];
                    joys[one * PLACES + other] += worth;
                    joys[other * PLACES + one] += worth;
                    blisses[one * PLACES + other] += worth;
                    blisses[other * PLACES + one] += worth;
                }
            }
        }

        private void weighNoise(Street street, int noise, int person, Day today) {
            int maker = street.plan.makers[noise];
            if (maker == person) {
                return;
            }
            int hour = street.plan.times[noise];
            int hurt = street.hurtOf(noise, person, today);
            for (int i = 0; i < Street.SIDES * Street.SIDES; i++) {
                int side = i / Street.SIDES;
                int makerSide = i % Street.SIDES;
                if (!today.wakes(side, hour) && today.wakes(makerSide, hour)) {
                    int sleeper = placeOf(person, side);
                    int loud = placeOf(maker, makerSide);
                    joys[sleeper * PLACES + loud] -= hurt;
                    blisses[sleeper * PLACES + loud] -= hurt;
                    blisses[loud * PLACES + sleeper] -= hurt;
                }
            }
        }

        private static int placeOf(int person, int side) {
            return person * Street.SIDES + side;
        }

        int bestForAll(int[] best) {
            Arrays.fill(trial, 0);
            int most = 0;
            int fewest = 0;
            int from = 0;
            for (int i = 0; i < MOST_TRIALS && from != NONE; i++) {
                addUpFrom(from);
                int bliss = blissUpTo[persons];
                int changes = changesUpTo[persons];
                if (i == 0 || bliss > most || bliss == most && changes < fewest) {
                    most = bliss;
                    fewest = changes;
                    System.arraycopy(trial, 0, best, 0, persons);
                }
                from = nextTrial();
            }
            return most;
        }

        private void addUpFrom(int from) {
            for (int p = from; p < persons; p++) {
                int place = placeOf(p, trial[p]);
                int bliss = blissUpTo[p];
                for (int other = 0; other < p; other++) {
                    bliss += blisses[place * PLACES + placeOf(other, trial[other])];
                }
                blissUpTo[p + 1] = bliss;
                changesUpTo[p + 1] = changesUpTo[p] + (trial[p] == now[p] ? 0 : 1);
            }
        }

        /** The first person whose side is another one than before; NONE behind the last trial. */
        private int nextTrial() {
            for (int p = persons - 1; p >= 0; p--) {
                trial[p]++;
                if (trial[p] < Street.SIDES) {
                    return p;
                }
                trial[p] = 0;
            }
            return NONE;
        }

        int comeToRest(int[] sides) {
            System.arraycopy(now, 0, sides, 0, persons);
            for (int rounds = 0; rounds <= MOST_ROUNDS; rounds++) {
                if (!goRound(sides)) {
                    return rounds;
                }
            }
            return NONE;
        }

        private boolean goRound(int[] sides) {
            boolean changed = false;
            for (int p = 0; p < persons; p++) {
                int best = sides[p];
                for (int side = 0; side < Street.SIDES; side++) {
                    best = joyWith(p, side, sides) > joyWith(p, best, sides) ? side : best;
                }
                changed |= best != sides[p];
                sides[p] = best;
            }
            return changed;
        }

        private int joyWith(int person, int side, int[] sides) {
            int joy = 0;
            for (int other = 0; other < persons; other++) {
                if (other != person) {
                    joy += joys[placeOf(person, side) * PLACES + placeOf(other, sides[other])];
                }
            }
            return joy;
        }
    }

    /** Letters go from hand to hand, among those who meet, as soon as both are awake. */
    private static final class Letters {
        static final int MOST_HOURS = 240;

        static int hoursTo(Street street, int person, int other) {
            int have = 1 << person;
            for (int gone = 0; gone <= MOST_HOURS; gone++) {
                if ((have >> other & 1) == 1) {
                    return gone;
                }
                have = handOn(street.plan, have, whoIsAwakeBehind(street, gone));
            }
            return NONE;
        }

        static int whoHasIt(Street street, int person, int hours) {
            int have = 1 << person;
            for (int gone = 0; gone < hours; gone++) {
                have = handOn(street.plan, have, whoIsAwakeBehind(street, gone));
            }
            return have;
        }

        static int fewestWoken(Street street, int person, int other) {
            int awake = whoIsAwakeBehind(street, 0);
            int best = NONE;
            for (int woken = 0; woken <= street.everybody(); woken++) {
                boolean fewer = best == NONE || Integer.bitCount(woken) < Integer.bitCount(best);
                if (fewer && (woken & awake) == 0) {
                    int have = handOn(street.plan, 1 << person, awake | woken);
                    best = (have >> other & 1) == 1 ? woken : best;
                }
            }
            return best;
        }

        private static int whoIsAwakeBehind(Street street, int gone) {
            int hours = street.state.hour + gone;
            int date = (street.state.date + hours / Street.HOURS) % Street.DATES;
            return street.whoIsAwake(street.dayOf(date), hours % Street.HOURS);
        }

        private static int handOn(Plan plan, int holders, int awake) {
            int have = holders;
            for (int i = 0; i < plan.persons; i++) {
                int before = have;
                for (int m = 0; m < plan.meets; m++) {
                    int both = plan.bothOf(m);
                    have |= (both & ~awake) == 0 && (both & have) != 0 ? both : 0;
                }
                if (have == before) {
                    return have;
                }
            }
            return have;
        }
    }

    /** Lights told and untold, and the ways to be on two sides that fit those that count. */
    private static final class Lights {
        private static final int MOST = 30;
        private static final int MOST_WAYS = 128;
        private static final int MOST_LATER = 1000;
        private static final int LAST_TIME = 100000;
        private static final int NOT_SURE = -2;

        private int count;
        private int time;
        private final int[] houses = new int[MOST];
        private final int[] hours = new int[MOST];
        private final boolean[] were = new boolean[MOST];
        private final int[] toldAt = new int[MOST];
        /** NONE as long as it is not untold. */
        private final int[] untoldAt = new int[MOST];
        /** The ways that fit, by the latest look: a bit of who is on the side of the night. */
        private final int[] nights = new int[MOST_WAYS];
        private int ways;

        void forgetAll() {
            count = 0;
        }

        int tell(int house, int hour, boolean is) {
            if (count >= MOST) {
                return NONE;
            }
            houses[count] = house;
            hours[count] = hour;
            were[count] = is;
            toldAt[count] = time;
            untoldAt[count] = NONE;
            count++;
            return count - 1;
        }

        boolean takeBack(int light) {
            if (light < 0 || light >= count || untoldAt[light] != NONE) {
                return false;
            }
            untoldAt[light] = time;
            return true;
        }

        int goOn(int by) {
            if (by < 0 || by > MOST_LATER || time + by > LAST_TIME) {
                return NONE;
            }
            time += by;
            return time;
        }

        /** Each light that counts leaves fewer of the ways, from all that there are. */
        void lookAt(Street street, int k) {
            Day today = street.today();
            ways = Math.min(1 << street.plan.persons, MOST_WAYS);
            for (int i = 0; i < ways; i++) {
                nights[i] = i;
            }
            for (int light = 0; light < count; light++) {
                boolean untold = untoldAt[light] != NONE && untoldAt[light] <= k;
                if (toldAt[light] <= k && !untold) {
                    dropAgainst(light, street.plan, today);
                }
            }
        }

        private void dropAgainst(int light, Plan plan, Day today) {
            int home = plan.whoLivesAt(houses[light]);
            boolean day = today.wakes(Street.DAY, hours[light]);
            int left = 0;
            for (int i = 0; i < ways; i++) {
                if (isLit(nights[i], home, day) == were[light]) {
                    nights[left] = nights[i];
                    left++;
                }
            }
            ways = left;
        }

        private static boolean isLit(int night, int home, boolean day) {
            return (home & (day ? ~night : night)) != 0;
        }

        int sideOf(int person) {
            int byNight = 0;
            for (int i = 0; i < ways; i++) {
                byNight += nights[i] >> person & 1;
            }
            if (ways == 0) {
                return NONE;
            }
            if (byNight == 0) {
                return Street.DAY;
            }
            return byNight == ways ? Street.NIGHT : NOT_SURE;
        }

        int bestHour(Street street, int house) {
            int best = 0;
            int fewest = mostLeft(street, house, 0);
            for (int hour = 1; hour < Street.HOURS; hour++) {
                int left = mostLeft(street, house, hour);
                if (left < fewest) {
                    best = hour;
                    fewest = left;
                }
            }
            return best;
        }

        int mostLeft(Street street, int house, int hour) {
            int home = street.plan.whoLivesAt(house);
            boolean day = street.today().wakes(Street.DAY, hour);
            int lit = 0;
            for (int i = 0; i < ways; i++) {
                lit += isLit(nights[i], home, day) ? 1 : 0;
            }
            return Math.max(lit, ways - lit);
        }
    }
}
