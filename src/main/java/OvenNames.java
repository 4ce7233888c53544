import java.util.Arrays;

/**
 * A village with one oven, which gives to each name that is said into it the loaf that its bearer
 * deserves. The words used here (SOUL, LOAF, SAYINGS ..) are those of DOC.md.
 */
public final class OvenNames {
    /** There is none. */
    public static final int NONE = -1;

    private static final int NO_SUCH = -2;
    private static final int TAPE_MOST = 1600;
    private static final int BYTES_A_FEED = 20;
    private static final int SOULS_MOST = 5;
    private static final int DEEDS_MOST = 5;
    private static final int FEUDS_MOST = 10;
    private static final int HEATS = 10;
    private static final int STAY_MOST = 99;
    private static final int LOAF_MOST = 99;
    private static final int WEEKS_MOST = 999;
    private static final int BREADS_AHEAD_MOST = 60;
    private static final int ODDS_AHEAD_MOST = 6;
    private static final int BOXES = 3;

    private static final int FAULT_NO_TOKEN = 1;
    private static final int FAULT_CANT_STAND = 2;
    private static final int FAULT_TOLD_ALREADY = 3;
    private static final int FAULT_NUMBER = 4;
    private static final int FAULT_UNKNOWN = 5;

    private final byte[] tape = new byte[TAPE_MOST];
    private int tapeLength;
    private final Reader reader = new Reader(tape);
    private int lastFault;
    private int lastFaultPlace = NONE;
    private final Village told = new Village();
    private final State now = new State();
    private final History history = new History();
    private final State[] boxes = new State[BOXES];
    private final boolean[] isKept = new boolean[BOXES];
    private final Batch batch = new Batch(told, now);
    private final Search search = new Search(batch, told, now);
    private final Outlook outlook = new Outlook(told, now);
    private final Reports reports = new Reports(told);

    public OvenNames() {
        for (int box = 0; box < BOXES; box++) {
            boxes[box] = new State();
        }
        begin();
    }

    public int feed(int a, int b, int c, int d, int e) {
        if (tapeLength + BYTES_A_FEED > TAPE_MOST) {
            return NONE;
        }
        putOnTape(a);
        putOnTape(b);
        putOnTape(c);
        putOnTape(d);
        putOnTape(e);
        return tapeLength;
    }

    public int end(int n) {
        if (n < 0 || n > tapeLength) {
            return NONE;
        }
        tapeLength = n;
        return n;
    }

    public int village() {
        reader.read(tapeLength);
        tapeLength = 0;
        lastFault = reader.faultFound;
        lastFaultPlace = reader.faultPlace;
        if (lastFault != 0) {
            return NONE;
        }
        told.take(reader.draft);
        begin();
        return told.souls;
    }

    public int fault(int what) {
        if (what == 0) {
            return lastFault;
        }
        return what == 1 ? lastFaultPlace : NONE;
    }

    public int soul(int soul, int what) {
        if (!isSoul(soul)) {
            return NO_SUCH;
        }
        switch (what) {
            case 0: return told.needs[soul];
            case 1: return now.deeds[soul];
            case 2: return now.names[soul];
            case 3: return now.stays[soul];
            case 4: return now.olds[soul];
            case 5: return outlook.loafNow(soul);
            case 6: return search.gainNow(soul);
            case 7: return now.timesFed[soul];
            case 8: return now.timesShamed[soul];
            case 9: return now.feuds[soul];
            default: return NO_SUCH;
        }
    }

    public int does(int soul, int deed) {
        if (!isSoul(soul) || !isDeed(deed)) {
            return NONE;
        }
        now.deeds[soul] ^= 1 << deed;
        history.keep(now);
        return now.deeds[soul];
    }

    public int says(int soul, int whose) {
        if (!isSoul(soul) || (whose != NONE && !isSoul(whose))) {
            return NONE;
        }
        now.names[soul] = whose;
        history.keep(now);
        return whose == NONE ? 0 : Integer.bitCount(now.sayersOf(whose));
    }

    public int feud(int soul, int other) {
        if (!isSoul(soul) || !isSoul(other) || soul == other) {
            return NONE;
        }
        now.feuds[soul] ^= 1 << other;
        now.feuds[other] ^= 1 << soul;
        history.keep(now);
        return (now.feuds[soul] >> other) & 1;
    }

    public int bread() {
        if (now.week >= WEEKS_MOST) {
            return NONE;
        }
        int fedSouls = search.fedNow();
        int said = Integer.bitCount(now.sayers());
        for (int soul = 0; soul < told.souls; soul++) {
            int loaf = outlook.loafBy(soul, now.deeds[soul], now.heat, said);
            now.endWeekOf(soul, loaf, (fedSouls & (1 << soul)) != 0);
        }
        now.beginWeek();
        history.keep(now);
        return fedSouls;
    }

    public boolean undo() {
        return history.goBack(now);
    }

    public boolean redo() {
        return history.goOn(now);
    }

    public boolean stone() {
        return now.quarrel(now.sayers());
    }

    public int fed() {
        return search.fedNow();
    }

    public int feeds(int set) {
        return search.leastShame(set);
    }

    public int richest() {
        return search.mostTogether();
    }

    public int steady() {
        return search.countSteady();
    }

    public boolean isSteady() {
        return search.isSteadyNow();
    }

    public int rest() {
        return search.roundsToRest();
    }

    public int silent() {
        return search.fewestSilent();
    }

    public int spoiler(int what) {
        return what == 0 || what == 1 ? search.findSpoiler(what) : NONE;
    }

    public int claims(int whose) {
        return isSoul(whose) ? now.sayersOf(whose) : NONE;
    }

    public int peace(int what) {
        if (what != 0 && what != 1) {
            return NONE;
        }
        int largest = search.largestPeace();
        return what == 0 ? Integer.bitCount(largest) : largest;
    }

    public int pairs() {
        return search.bestPairs();
    }

    public int alike() {
        return search.countAlike();
    }

    public int makes(int soul, int loaf) {
        return isSoul(soul) ? outlook.deedsMaking(soul, loaf) : 0;
    }

    public int wants(int soul, int least, int what) {
        if (!isSoul(soul) || (what != 0 && what != 1)) {
            return NONE;
        }
        int deeds = outlook.fewestDeeds(soul, least);
        return deeds == NONE || what == 1 ? deeds : Integer.bitCount(deeds);
    }

    public int warm(int soul, int least) {
        return isSoul(soul) ? outlook.heatsFor(soul, least) : NONE;
    }

    public int will(int soul, int n) {
        if (!isSoul(soul) || n < 0 || n > BREADS_AHEAD_MOST) {
            return NONE;
        }
        return outlook.loafBehind(soul, n);
    }

    public int odds(int soul, int n, int least, int part) {
        if (!isSoul(soul) || n < 0 || n > ODDS_AHEAD_MOST || (part != 0 && part != 1)) {
            return NONE;
        }
        return outlook.oddsBehind(soul, n, least, part);
    }

    public int soonest(int soul, int least) {
        return isSoul(soul) ? outlook.breadsTill(soul, least) : NONE;
    }

    public int lies(int i) {
        return i >= 0 && i < search.lyingCount ? search.lying[i] : NO_SUCH;
    }

    public int report(int stay, int old, int heat, int loaf) {
        return reports.tell(stay, old, heat, loaf);
    }

    public boolean untell(int report) {
        return reports.takeBack(report);
    }

    public int later(int by) {
        return reports.passTime(by);
    }

    public int fit(int k) {
        return Integer.bitCount(reports.fittingSets(k));
    }

    public int sets(int k) {
        return reports.fittingSets(k);
    }

    public int sure(int deed, int k) {
        return isDeed(deed) ? reports.sureOf(deed, k) : NONE;
    }

    public int ask(int stay, int old, int what, int k) {
        if (!isHundredth(stay) || !isHundredth(old) || (what != 0 && what != 1)) {
            return NONE;
        }
        return reports.bestAsked(stay, old, what, k);
    }

    public int course(int what, int k) {
        return what == 0 || what == 1 ? reports.bestCourse(what, k) : NONE;
    }

    public int image(int box) {
        if (!isBox(box)) {
            return NONE;
        }
        boxes[box].take(now);
        isKept[box] = true;
        return now.week;
    }

    public int back(int box) {
        if (!isBox(box) || !isKept[box]) {
            return NONE;
        }
        now.take(boxes[box]);
        history.begin(now);
        return now.week;
    }

    public int about(int what) {
        switch (what) {
            case 0: return told.souls;
            case 1: return told.deeds;
            case 2: return now.countFeuds();
            case 3: return now.heat;
            case 4: return now.seed;
            case 5: return now.week;
            case 6: return Integer.bitCount(now.sayers());
            case 7: return history.undoable;
            case 8: return history.redoable;
            case 9: return reports.count;
            case 10: return reports.time;
            case 11: return tapeLength;
            case 12: return told.formula.units;
            case 13: return search.lyingCount;
            default: return NONE;
        }
    }

    /** All as told; the TIME alone goes on over a new VILLAGE. */
    private void begin() {
        now.begin(told);
        history.begin(now);
        reports.clear();
        search.clearLying();
        for (int box = 0; box < BOXES; box++) {
            isKept[box] = false;
        }
    }

    private void putOnTape(int four) {
        for (int shift = 24; shift >= 0; shift -= 8) {
            if (tapeLength < TAPE_MOST) {
                tape[tapeLength] = (byte) (four >>> shift);
                tapeLength++;
            }
        }
    }

    private boolean isSoul(int soul) {
        return soul >= 0 && soul < told.souls;
    }

    private boolean isDeed(int deed) {
        return deed >= 0 && deed < told.deeds;
    }

    private static boolean isBox(int box) {
        return box >= 0 && box < BOXES;
    }

    private static boolean isHundredth(int number) {
        return number >= 0 && number <= 99;
    }

    /** The e of a loaf line, as steps of a reckoning with a stack: both sides, then what joins them. */
    private static final class Formula {
        static final int NUMBER = 0;
        static final int DEED = 1;
        static final int STAY = 2;
        static final int OLD = 3;
        static final int HEAT = 4;
        static final int SAID = 5;
        static final int OR = 6;
        static final int AND = 7;
        static final int NOT = 8;
        static final int LESS = 9;
        static final int MORE = 10;
        static final int SAME = 11;
        static final int PLUS = 12;
        static final int MINUS = 13;
        static final int TIMES = 14;
        static final int OVER = 15;
        static final int MODULO = 16;
        static final int UNITS_MOST = 30;
        /** Above 30 units, 29 joinings and 7 nots ahead of each unit. */
        private static final int STEPS_MOST = 300;
        private static final int LOAF_UNTOLD = 10;

        int units;
        private int length;
        private final int[] steps = new int[STEPS_MOST];
        private final int[] details = new int[STEPS_MOST];
        private final int[] values = new int[UNITS_MOST + 1];

        void clear() {
            units = 0;
            length = 0;
        }

        void take(Formula from) {
            units = from.units;
            length = from.length;
            System.arraycopy(from.steps, 0, steps, 0, STEPS_MOST);
            System.arraycopy(from.details, 0, details, 0, STEPS_MOST);
        }

        void addStep(int step, int detail) {
            if (length < STEPS_MOST) {
                steps[length] = step;
                details[length] = detail;
                length++;
            }
        }

        int loaf(int deeds, int stay, int old, int heat, int said) {
            if (length == 0) {
                return LOAF_UNTOLD;
            }
            int top = 0;
            for (int i = 0; i < length; i++) {
                int step = steps[i];
                if (step <= SAID) {
                    if (top < values.length) {
                        values[top] = unit(step, details[i], deeds, stay, old, heat, said);
                        top++;
                    }
                } else if (step == NOT) {
                    if (top >= 1) {
                        values[top - 1] = values[top - 1] == 0 ? 1 : 0;
                    }
                } else if (top >= 2) {
                    top--;
                    values[top - 1] = join(step, values[top - 1], values[top]);
                }
            }
            return Math.max(0, Math.min(LOAF_MOST, values[0]));
        }

        private static int unit(int step, int detail, int deeds, int stay, int old, int heat, int said) {
            switch (step) {
                case DEED: return (deeds >> detail) & 1;
                case STAY: return stay;
                case OLD: return old;
                case HEAT: return heat;
                case SAID: return said;
                default: return detail;
            }
        }

        private static int join(int step, int left, int right) {
            switch (step) {
                case OR: return left != 0 || right != 0 ? 1 : 0;
                case AND: return left != 0 && right != 0 ? 1 : 0;
                case LESS: return left < right ? 1 : 0;
                case MORE: return left > right ? 1 : 0;
                case SAME: return left == right ? 1 : 0;
                case PLUS: return left + right;
                case MINUS: return left - right;
                case TIMES: return left * right;
                case OVER: return right == 0 ? 0 : left / right;
                default: return right == 0 ? 0 : left % right;
            }
        }
    }

    /** What a VILLAGE's text tells. */
    private static final class Village {
        int souls;
        int deeds;
        int heat;
        int draw;
        final int[] needs = new int[SOULS_MOST];
        final int[] stays = new int[SOULS_MOST];
        /** By SOUL: with whom he has a FEUD, as bits. */
        final int[] feuds = new int[SOULS_MOST];
        final Formula formula = new Formula();

        void clear() {
            souls = 0;
            deeds = 0;
            heat = 0;
            draw = 0;
            Arrays.fill(needs, 0);
            Arrays.fill(stays, 0);
            Arrays.fill(feuds, 0);
            formula.clear();
        }

        void take(Village from) {
            souls = from.souls;
            deeds = from.deeds;
            heat = from.heat;
            draw = from.draw;
            System.arraycopy(from.needs, 0, needs, 0, SOULS_MOST);
            System.arraycopy(from.stays, 0, stays, 0, SOULS_MOST);
            System.arraycopy(from.feuds, 0, feuds, 0, SOULS_MOST);
            formula.take(from.formula);
        }
    }

    /** Cuts a text into TOKENS, one at a time. A sign's kind is the sign itself. */
    private static final class Scanner {
        static final int END = 0;
        static final int BAD = 1;
        static final int NUMBER = 2;
        static final int NAME = 3;
        /** The first of the words that stand for themselves; their kinds go up in the order of WORDS. */
        static final int DEED = 256;
        static final int SOUL = 257;
        static final int NEEDS = 258;
        static final int STAYS = 259;
        static final int FEUD = 260;
        static final int WITH = 261;
        static final int LOAF = 262;
        static final int HEAT = 263;
        static final int DRAW = 264;
        static final int OR = 265;
        static final int AND = 266;
        static final int NOT = 267;
        static final int STAY = 268;
        static final int OLD = 269;
        static final int SAID = 270;
        private static final long[] WORDS = {
            0x64656564L /* deed */, 0x736f756cL /* soul */, 0x6e65656473L /* needs */,
            0x7374617973L /* stays */, 0x66657564L /* feud */, 0x77697468L /* with */,
            0x6c6f6166L /* loaf */, 0x68656174L /* heat */, 0x64726177L /* draw */,
            0x6f72L /* or */, 0x616e64L /* and */, 0x6e6f74L /* not */,
            0x73746179L /* stay */, 0x6f6c64L /* old */, 0x73616964L /* said */};
        private static final String SIGNS = ";()<>=+-*/%";
        private static final int LETTERS_MOST = 8;
        private static final int DIGITS_MOST = 4;

        int kind;
        int place;
        int number;
        /** A word's letters, eight bits each. */
        long word;
        private final byte[] text;
        private int length;
        private int next;

        Scanner(byte[] text) {
            this.text = text;
        }

        void begin(int textLength) {
            length = Math.min(textLength, text.length);
            next = 0;
            advance();
        }

        void advance() {
            while (next < length && (text[next] == 32 || text[next] == 10)) {
                next++;
            }
            place = next;
            if (next >= length) {
                kind = END;
            } else if (isLetter(next)) {
                scanWord();
            } else if (isDigit(next)) {
                scanNumber();
            } else {
                int sign = text[next] & 255;
                kind = SIGNS.indexOf((char) sign) >= 0 ? sign : BAD;
                next++;
            }
        }

        private void scanWord() {
            word = 0;
            while (next < length && isLetter(next)) {
                word = (word << 8) | text[next];
                next++;
            }
            kind = next - place > LETTERS_MOST ? BAD : NAME;
            for (int i = 0; i < WORDS.length && kind == NAME; i++) {
                if (WORDS[i] == word) {
                    kind = DEED + i;
                }
            }
        }

        private void scanNumber() {
            number = 0;
            while (next < length && isDigit(next)) {
                number = number * 10 + text[next] - '0';
                next++;
            }
            boolean isGood = next - place <= DIGITS_MOST && (next >= length || !isLetter(next));
            kind = isGood ? NUMBER : BAD;
        }

        private boolean isLetter(int at) {
            return at >= 0 && at < length && text[at] >= 'a' && text[at] <= 'z';
        }

        private boolean isDigit(int at) {
            return at >= 0 && at < length && text[at] >= '0' && text[at] <= '9';
        }
    }

    /** Reads a VILLAGE's text line by line into a draft, up to the first FAULT. */
    private static final class Reader {
        final Village draft = new Village();
        int faultFound;
        int faultPlace;
        private final Scanner scanner;
        private final long[] deedNames = new long[DEEDS_MOST];
        private final long[] soulNames = new long[SOULS_MOST];
        private final FormulaReader formulas;
        private int feudCount;
        private boolean isLoafTold;
        private boolean isHeatTold;
        private boolean isDrawTold;

        Reader(byte[] text) {
            scanner = new Scanner(text);
            formulas = new FormulaReader(scanner, draft, deedNames);
        }

        void read(int length) {
            draft.clear();
            faultFound = 0;
            faultPlace = NONE;
            feudCount = 0;
            isLoafTold = false;
            isHeatTold = false;
            isDrawTold = false;
            scanner.begin(length);
            // A line has a byte at least, so there are no more lines than bytes.
            for (int lines = 0; lines < length && faultFound == 0 && scanner.kind != Scanner.END; lines++) {
                switch (scanner.kind) {
                    case Scanner.DEED: readDeed(); break;
                    case Scanner.SOUL: readSoul(); break;
                    case Scanner.FEUD: readFeud(); break;
                    case Scanner.LOAF: readLoaf(); break;
                    case Scanner.HEAT: readHeat(); break;
                    case Scanner.DRAW: readDraw(); break;
                    default: fail(FAULT_CANT_STAND);
                }
                pass(';');
            }
        }

        private void readDeed() {
            if (passFirst(draft.deeds < DEEDS_MOST) && isNewName(deedNames, draft.deeds)) {
                deedNames[draft.deeds] = scanner.word;
                draft.deeds++;
                scanner.advance();
            }
        }

        private void readSoul() {
            if (!passFirst(draft.souls < SOULS_MOST) || !isNewName(soulNames, draft.souls)) {
                return;
            }
            int soul = draft.souls;
            soulNames[soul] = scanner.word;
            draft.souls++;
            scanner.advance();
            pass(Scanner.NEEDS);
            draft.needs[soul] = readNumber(99);
            if (faultFound == 0 && scanner.kind == Scanner.STAYS) {
                scanner.advance();
                draft.stays[soul] = readNumber(STAY_MOST);
            }
        }

        private void readFeud() {
            if (!passFirst(feudCount < FEUDS_MOST)) {
                return;
            }
            int one = readSoulName();
            pass(Scanner.WITH);
            if (faultFound != 0) {
                return;
            }
            int other = soulHere();
            if (one < 0 || other < 0) {
                return;
            }
            if (one == other || (draft.feuds[one] & (1 << other)) != 0) {
                fail(FAULT_TOLD_ALREADY);
                return;
            }
            draft.feuds[one] |= 1 << other;
            draft.feuds[other] |= 1 << one;
            feudCount++;
            scanner.advance();
        }

        private void readLoaf() {
            if (passFirst(!isLoafTold)) {
                isLoafTold = true;
                int fault = formulas.readFormula();
                if (fault != 0) {
                    fail(fault);
                }
            }
        }

        private void readHeat() {
            if (passFirst(!isHeatTold)) {
                isHeatTold = true;
                draft.heat = readNumber(HEATS - 1);
            }
        }

        private void readDraw() {
            if (passFirst(!isDrawTold)) {
                isDrawTold = true;
                draft.draw = readNumber(State.SEEDS - 1);
            }
        }

        private boolean passFirst(boolean mayStand) {
            if (!mayStand) {
                fail(FAULT_CANT_STAND);
                return false;
            }
            scanner.advance();
            return true;
        }

        private void pass(int kind) {
            if (faultFound == 0) {
                if (scanner.kind == kind) {
                    scanner.advance();
                } else {
                    fail(FAULT_CANT_STAND);
                }
            }
        }

        private boolean isNewName(long[] names, int count) {
            if (scanner.kind != Scanner.NAME) {
                fail(FAULT_CANT_STAND);
            } else if (find(names, count, scanner.word) != NONE) {
                fail(FAULT_TOLD_ALREADY);
            }
            return faultFound == 0;
        }

        private int readSoulName() {
            int soul = soulHere();
            if (soul != NONE) {
                scanner.advance();
            }
            return soul;
        }

        private int soulHere() {
            if (scanner.kind != Scanner.NAME) {
                fail(FAULT_CANT_STAND);
                return NONE;
            }
            int soul = find(soulNames, draft.souls, scanner.word);
            if (soul == NONE) {
                fail(FAULT_UNKNOWN);
            }
            return soul;
        }

        private int readNumber(int most) {
            if (faultFound != 0) {
                return 0;
            }
            if (scanner.kind != Scanner.NUMBER || scanner.number > most) {
                fail(scanner.kind == Scanner.NUMBER ? FAULT_NUMBER : FAULT_CANT_STAND);
                return 0;
            }
            int number = scanner.number;
            scanner.advance();
            return number;
        }

        /** What is found behind the first FAULT is none: its place would be later. */
        private void fail(int fault) {
            if (faultFound == 0) {
                faultFound = scanner.kind == Scanner.BAD ? FAULT_NO_TOKEN : fault;
                faultPlace = scanner.place;
            }
        }

        static int find(long[] names, int count, long name) {
            for (int i = 0; i < count && i < names.length; i++) {
                if (names[i] == name) {
                    return i;
                }
            }
            return NONE;
        }
    }

    /** Reads an e; what joins two sides waits till its right side has been read. */
    private static final class FormulaReader {
        private static final int BRACKET = 17;
        private static final int WITHIN_MOST = 6;
        /** Above 8 levels of five joinings each, with 7 brackets and nots between. */
        private static final int WAITING_MOST = 64;
        /** By step: how tightly it binds; the bracket least, so that nothing passes it. */
        private static final int[] RANKS = {9, 9, 9, 9, 9, 9, 1, 2, 3, 4, 4, 4, 5, 5, 6, 6, 6, 0};
        private static final int RANK_OR = 1;
        private static final int RANK_AND = 2;
        private static final int RANK_RELATION = 4;

        private final Scanner scanner;
        private final Village draft;
        private final long[] deedNames;
        private final int[] waiting = new int[WAITING_MOST];
        private int waitingCount;
        private int brackets;
        /** How many brackets and nots what comes next is within. */
        private int within;
        private boolean isUnitDue;
        private boolean mayNegate;

        FormulaReader(Scanner scanner, Village draft, long[] deedNames) {
            this.scanner = scanner;
            this.draft = draft;
            this.deedNames = deedNames;
        }

        /** The FAULT at the TOKEN where the scanner stands then, or 0. */
        int readFormula() {
            waitingCount = 0;
            brackets = 0;
            within = 0;
            isUnitDue = true;
            mayNegate = true;
            for (int tokens = 0; tokens <= TAPE_MOST; tokens++) {
                if (!isUnitDue && brackets == 0 && scanner.kind == ';') {
                    unwind(RANK_OR);
                    return 0;
                }
                int fault = isUnitDue ? readUnit() : readJoining();
                if (fault != 0) {
                    return fault;
                }
                scanner.advance();
            }
            return FAULT_CANT_STAND;
        }

        private int readUnit() {
            int kind = scanner.kind;
            if (kind == Scanner.NOT && mayNegate) {
                return open(Formula.NOT);
            }
            int step = kind == '(' ? BRACKET : stepOfUnit(kind);
            if (step == NONE || draft.formula.units >= Formula.UNITS_MOST) {
                return FAULT_CANT_STAND;
            }
            draft.formula.units++;
            if (step == BRACKET) {
                brackets++;
                return open(BRACKET);
            }
            isUnitDue = false;
            int detail = scanner.number;
            if (step == Formula.DEED) {
                detail = Reader.find(deedNames, draft.deeds, scanner.word);
                if (detail == NONE) {
                    return FAULT_UNKNOWN;
                }
            }
            draft.formula.addStep(step, detail);
            return 0;
        }

        private int open(int step) {
            if (within > WITHIN_MOST) {
                return FAULT_CANT_STAND;
            }
            within++;
            mayNegate = true;
            return letWait(step);
        }

        private int readJoining() {
            if (scanner.kind == ')') {
                return closeBracket();
            }
            int step = stepOfJoining(scanner.kind);
            if (step == NONE) {
                return FAULT_CANT_STAND;
            }
            int rank = RANKS[step];
            if (rank == RANK_RELATION) {
                unwind(rank + 1);
                if (waitingCount > 0 && RANKS[waiting[waitingCount - 1]] == RANK_RELATION) {
                    return FAULT_CANT_STAND;
                }
            } else {
                unwind(rank);
            }
            isUnitDue = true;
            mayNegate = rank <= RANK_AND;
            return letWait(step);
        }

        private int closeBracket() {
            if (brackets == 0) {
                return FAULT_CANT_STAND;
            }
            unwind(RANK_OR);
            waitingCount = Math.max(0, waitingCount - 1);
            brackets--;
            within--;
            return 0;
        }

        private int letWait(int step) {
            if (waitingCount >= WAITING_MOST) {
                return FAULT_CANT_STAND;
            }
            waiting[waitingCount] = step;
            waitingCount++;
            return 0;
        }

        /** What waits and binds as tightly as that, or more, has its right side now. */
        private void unwind(int rank) {
            for (int i = waitingCount - 1; i >= 0 && RANKS[waiting[i]] >= rank; i--) {
                draft.formula.addStep(waiting[i], 0);
                if (waiting[i] == Formula.NOT) {
                    within--;
                }
                waitingCount = i;
            }
        }

        private static int stepOfUnit(int kind) {
            switch (kind) {
                case Scanner.NUMBER: return Formula.NUMBER;
                case Scanner.NAME: return Formula.DEED;
                case Scanner.STAY: return Formula.STAY;
                case Scanner.OLD: return Formula.OLD;
                case Scanner.HEAT: return Formula.HEAT;
                case Scanner.SAID: return Formula.SAID;
                default: return NONE;
            }
        }

        private static int stepOfJoining(int kind) {
            switch (kind) {
                case Scanner.OR: return Formula.OR;
                case Scanner.AND: return Formula.AND;
                case '<': return Formula.LESS;
                case '>': return Formula.MORE;
                case '=': return Formula.SAME;
                case '+': return Formula.PLUS;
                case '-': return Formula.MINUS;
                case '*': return Formula.TIMES;
                case '/': return Formula.OVER;
                case '%': return Formula.MODULO;
                default: return NONE;
            }
        }
    }

    /** What ACTS change, and BOXES keep. */
    private static final class State {
        static final int SEEDS = 1000;

        final int[] deeds = new int[SOULS_MOST];
        /** Whose NAME each says; NONE for those who are not there, too. */
        final int[] names = new int[SOULS_MOST];
        final int[] stays = new int[SOULS_MOST];
        final int[] olds = new int[SOULS_MOST];
        final int[] feuds = new int[SOULS_MOST];
        final int[] timesFed = new int[SOULS_MOST];
        final int[] timesShamed = new int[SOULS_MOST];
        int heat;
        int seed;
        int week;

        void begin(Village told) {
            Arrays.fill(deeds, 0);
            Arrays.fill(names, NONE);
            System.arraycopy(told.stays, 0, stays, 0, SOULS_MOST);
            Arrays.fill(olds, 0);
            System.arraycopy(told.feuds, 0, feuds, 0, SOULS_MOST);
            Arrays.fill(timesFed, 0);
            Arrays.fill(timesShamed, 0);
            heat = told.heat;
            seed = told.draw;
            week = 0;
        }

        void take(State from) {
            System.arraycopy(from.deeds, 0, deeds, 0, SOULS_MOST);
            System.arraycopy(from.names, 0, names, 0, SOULS_MOST);
            System.arraycopy(from.stays, 0, stays, 0, SOULS_MOST);
            System.arraycopy(from.olds, 0, olds, 0, SOULS_MOST);
            System.arraycopy(from.feuds, 0, feuds, 0, SOULS_MOST);
            System.arraycopy(from.timesFed, 0, timesFed, 0, SOULS_MOST);
            System.arraycopy(from.timesShamed, 0, timesShamed, 0, SOULS_MOST);
            heat = from.heat;
            seed = from.seed;
            week = from.week;
        }

        int sayers() {
            int sayers = 0;
            for (int soul = 0; soul < SOULS_MOST; soul++) {
                if (names[soul] != NONE) {
                    sayers |= 1 << soul;
                }
            }
            return sayers;
        }

        int sayersOf(int whose) {
            int sayers = 0;
            for (int soul = 0; soul < SOULS_MOST; soul++) {
                if (names[soul] == whose) {
                    sayers |= 1 << soul;
                }
            }
            return sayers;
        }

        boolean quarrel(int group) {
            for (int soul = 0; soul < SOULS_MOST; soul++) {
                if ((group & (1 << soul)) != 0 && (feuds[soul] & group) != 0) {
                    return true;
                }
            }
            return false;
        }

        int countFeuds() {
            int ends = 0;
            for (int soul = 0; soul < SOULS_MOST; soul++) {
                ends += Integer.bitCount(feuds[soul]);
            }
            return ends / 2;
        }

        /** The deeds and names stay till beginWeek: the other SOULS' LOAVES hang on them. */
        void endWeekOf(int soul, int loaf, boolean isFed) {
            if (soul < 0 || soul >= SOULS_MOST) {
                return;
            }
            if (isFed) {
                timesFed[soul]++;
            }
            if (names[soul] != NONE && names[soul] != soul) {
                timesShamed[soul]++;
            }
            olds[soul] = loaf;
            stays[soul] = Math.min(STAY_MOST, stays[soul] + 1);
        }

        void beginWeek() {
            Arrays.fill(deeds, 0);
            Arrays.fill(names, NONE);
            seed = seedBehind(seed);
            heat = heatOf(seed);
            week++;
        }

        static int seedBehind(int seed) {
            return (seed * 137 + 71) % SEEDS;
        }

        static int heatOf(int seed) {
            return seed % HEATS;
        }
    }

    /** The states between the ACTS that are kept, in a ring: as many as ACTS, and one. */
    private static final class History {
        private static final int ACTS_MOST = 40;
        private static final int RING = ACTS_MOST + 1;

        int undoable;
        int redoable;
        private int at;
        private final State[] ring = new State[RING];

        History() {
            for (int i = 0; i < RING; i++) {
                ring[i] = new State();
            }
        }

        void begin(State now) {
            at = 0;
            undoable = 0;
            redoable = 0;
            ring[at].take(now);
        }

        void keep(State now) {
            at = (at + 1) % RING;
            ring[at].take(now);
            undoable = Math.min(ACTS_MOST, undoable + 1);
            redoable = 0;
        }

        boolean goBack(State now) {
            if (undoable == 0) {
                return false;
            }
            at = (at + RING - 1) % RING;
            undoable--;
            redoable++;
            now.take(ring[at]);
            return true;
        }

        boolean goOn(State now) {
            if (redoable == 0) {
                return false;
            }
            at = (at + 1) % RING;
            redoable--;
            undoable++;
            now.take(ring[at]);
            return true;
        }
    }

    /** SAYINGS that are tried, and what each one would GET by them. */
    private static final class Batch {
        private final Village told;
        private final State now;
        final int[] names = new int[SOULS_MOST];
        /** By SOUL: how many say his NAME. */
        private final int[] counts = new int[SOULS_MOST];
        /** By how many say a NAME, and by SOUL; NONE: not reckoned yet. */
        private final int[] loaves = new int[(SOULS_MOST + 1) * SOULS_MOST];
        /** By who says a NAME, as bits. */
        private final boolean[] isStoneBy = new boolean[1 << SOULS_MOST];
        int sayers;

        Batch(Village told, State now) {
            this.told = told;
            this.now = now;
        }

        /** Looks at what is now: the SAYINGS, and all that LOAVES and STONE hang on. */
        void lookAtNow() {
            Arrays.fill(loaves, NONE);
            for (int group = 0; group < isStoneBy.length; group++) {
                isStoneBy[group] = now.quarrel(group);
            }
            hush();
            for (int soul = 0; soul < told.souls; soul++) {
                put(soul, now.names[soul]);
            }
        }

        void hush() {
            sayers = 0;
            Arrays.fill(names, NONE);
            Arrays.fill(counts, 0);
        }

        void put(int soul, int whose) {
            if (soul < 0 || soul >= SOULS_MOST || whose < NONE || whose >= SOULS_MOST) {
                return;
            }
            int before = names[soul];
            if (before >= 0 && before < SOULS_MOST) {
                counts[before]--;
            }
            names[soul] = whose;
            if (whose == NONE) {
                sayers &= ~(1 << soul);
            } else {
                counts[whose]++;
                sayers |= 1 << soul;
            }
        }

        /** How many SAYINGS there are. */
        int countWays() {
            int ways = 1;
            for (int soul = 0; soul < told.souls; soul++) {
                ways *= told.souls + 1;
            }
            return ways;
        }

        /** Goes on to the SAYINGS that these are the nearest ahead of. */
        void goOn() {
            for (int soul = told.souls - 1; soul >= 0; soul--) {
                if (names[soul] + 1 < told.souls) {
                    put(soul, names[soul] + 1);
                    return;
                }
                put(soul, NONE);
            }
        }

        /** What a SOUL GETS if he says that, all others as they are. */
        int gainBy(int soul, int whose) {
            if (whose < 0 || whose >= told.souls || soul < 0 || soul >= told.souls) {
                return 0;
            }
            int group = sayers | (1 << soul);
            if (isStoneBy[group]) {
                return 0;
            }
            int others = names[soul] == whose ? counts[whose] - 1 : counts[whose];
            return others < 0 ? 0 : loafBy(Integer.bitCount(group), whose) / (others + 1);
        }

        int gain(int soul) {
            return soul < 0 || soul >= SOULS_MOST ? 0 : gainBy(soul, names[soul]);
        }

        int gainOfAll() {
            int sum = 0;
            for (int soul = 0; soul < told.souls; soul++) {
                sum += gain(soul);
            }
            return sum;
        }

        boolean areFed(int set) {
            for (int soul = 0; soul < told.souls; soul++) {
                if ((set & (1 << soul)) != 0 && gain(soul) < told.needs[soul]) {
                    return false;
                }
            }
            return true;
        }

        /** How many say another one's NAME. */
        int shame() {
            int shame = 0;
            for (int soul = 0; soul < told.souls; soul++) {
                if (names[soul] != NONE && names[soul] != soul) {
                    shame++;
                }
            }
            return shame;
        }

        /** What the SOUL says by which he GETS most; what he says already ahead of others like it. */
        int bestFor(int soul) {
            if (soul < 0 || soul >= SOULS_MOST) {
                return NONE;
            }
            int best = names[soul];
            int most = gainBy(soul, best);
            for (int whose = NONE; whose < told.souls; whose++) {
                int gained = gainBy(soul, whose);
                if (gained > most) {
                    most = gained;
                    best = whose;
                }
            }
            return best;
        }

        int loafBy(int said, int soul) {
            int at = said * SOULS_MOST + soul;
            if (at < 0 || at >= loaves.length || soul < 0 || soul >= SOULS_MOST) {
                return 0;
            }
            if (loaves[at] == NONE) {
                loaves[at] = told.formula.loaf(now.deeds[soul], now.stays[soul], now.olds[soul], now.heat, said);
            }
            return loaves[at];
        }
    }

    /** Looks through SAYINGS, groups and pairs of SOULS; holds what lies there. */
    private static final class Search {
        private static final int ROUNDS_MOST = 50;

        private final Batch batch;
        private final Village told;
        private final State now;
        final int[] lying = new int[SOULS_MOST];
        int lyingCount;
        private final int[] loaves = new int[SOULS_MOST];
        private final int[] partners = new int[SOULS_MOST];
        private int bestWorth;

        Search(Batch batch, Village told, State now) {
            this.batch = batch;
            this.told = told;
            this.now = now;
        }

        void clearLying() {
            lyingCount = 0;
        }

        private void lay(int[] numbers) {
            lyingCount = told.souls;
            System.arraycopy(numbers, 0, lying, 0, SOULS_MOST);
        }

        int gainNow(int soul) {
            batch.lookAtNow();
            return batch.gain(soul);
        }

        int fedNow() {
            batch.lookAtNow();
            int fedSouls = 0;
            for (int soul = 0; soul < told.souls; soul++) {
                if (batch.areFed(1 << soul)) {
                    fedSouls |= 1 << soul;
                }
            }
            return fedSouls;
        }

        int leastShame(int set) {
            clearLying();
            if (set < 0 || set >= 1 << told.souls) {
                return NONE;
            }
            int least = NONE;
            batch.lookAtNow();
            batch.hush();
            for (int left = batch.countWays(); left > 0; left--) {
                int shame = batch.shame();
                if ((least == NONE || shame < least) && batch.areFed(set)) {
                    least = shame;
                    lay(batch.names);
                }
                batch.goOn();
            }
            return least;
        }

        int mostTogether() {
            int most = NONE;
            batch.lookAtNow();
            batch.hush();
            for (int left = batch.countWays(); left > 0; left--) {
                int gained = batch.gainOfAll();
                if (gained > most) {
                    most = gained;
                    lay(batch.names);
                }
                batch.goOn();
            }
            return most;
        }

        int countSteady() {
            clearLying();
            int count = 0;
            batch.lookAtNow();
            batch.hush();
            for (int left = batch.countWays(); left > 0; left--) {
                if (noneWouldLeave()) {
                    if (count == 0) {
                        lay(batch.names);
                    }
                    count++;
                }
                batch.goOn();
            }
            return count;
        }

        boolean isSteadyNow() {
            batch.lookAtNow();
            return noneWouldLeave();
        }

        private boolean noneWouldLeave() {
            for (int soul = 0; soul < told.souls; soul++) {
                if (batch.bestFor(soul) != batch.names[soul]) {
                    return false;
                }
            }
            return true;
        }

        int roundsToRest() {
            batch.lookAtNow();
            for (int rounds = 0; rounds <= ROUNDS_MOST; rounds++) {
                if (!changesInRound()) {
                    lay(batch.names);
                    return rounds;
                }
            }
            clearLying();
            return NONE;
        }

        private boolean changesInRound() {
            boolean changes = false;
            for (int soul = 0; soul < told.souls; soul++) {
                int best = batch.bestFor(soul);
                if (best != batch.names[soul]) {
                    batch.put(soul, best);
                    changes = true;
                }
            }
            return changes;
        }

        int fewestSilent() {
            int sayers = now.sayers();
            int best = sayers;
            for (int group = 0; group < 1 << told.souls; group++) {
                boolean isFewer = Integer.bitCount(group) < Integer.bitCount(best);
                if ((group & ~sayers) == 0 && isFewer && !now.quarrel(sayers & ~group)) {
                    best = group;
                }
            }
            return best;
        }

        /** What 0: the SPOILER, 1: what all others GET then. */
        int findSpoiler(int what) {
            int best = NONE;
            int most = NONE;
            batch.lookAtNow();
            for (int soul = 0; soul < told.souls; soul++) {
                int whose = batch.names[soul];
                if (whose != NONE) {
                    batch.put(soul, NONE);
                    int gained = batch.gainOfAll();
                    batch.put(soul, whose);
                    if (gained > most) {
                        most = gained;
                        best = soul;
                    }
                }
            }
            return what == 0 ? best : most;
        }

        int largestPeace() {
            int best = 0;
            for (int group = 0; group < 1 << told.souls; group++) {
                if (Integer.bitCount(group) > Integer.bitCount(best) && !now.quarrel(group)) {
                    best = group;
                }
            }
            return best;
        }

        private void lookAtLoaves() {
            batch.lookAtNow();
            int said = Integer.bitCount(batch.sayers);
            for (int soul = 0; soul < told.souls; soul++) {
                loaves[soul] = batch.loafBy(said, soul);
            }
        }

        int countAlike() {
            lookAtLoaves();
            int count = 0;
            for (int one = 0; one < told.souls; one++) {
                for (int other = one + 1; other < told.souls; other++) {
                    if (loaves[one] == loaves[other]) {
                        count++;
                    }
                }
            }
            return count;
        }

        int bestPairs() {
            lookAtLoaves();
            Arrays.fill(partners, NONE);
            bestWorth = NONE;
            pairFrom(0, 0);
            return bestWorth;
        }

        /** Comes to the pairings in their order, so that the first of like ones is kept. */
        private void pairFrom(int soul, int worth) {
            if (soul < 0 || soul >= told.souls) {
                if (worth > bestWorth) {
                    bestWorth = worth;
                    lay(partners);
                }
                return;
            }
            pairFrom(soul + 1, worth);
            if (partners[soul] != NONE) {
                return;
            }
            for (int other = soul + 1; other < told.souls; other++) {
                if (partners[other] == NONE && (now.feuds[soul] & (1 << other)) == 0) {
                    partners[soul] = other;
                    partners[other] = soul;
                    pairFrom(soul + 1, worth + Math.min(loaves[soul], loaves[other]));
                    partners[soul] = NONE;
                    partners[other] = NONE;
                }
            }
        }
    }

    /** A SOUL's LOAF as it would be by other DEEDS, other heats, behind BREADS. */
    private static final class Outlook {
        private static final int LOAVES = LOAF_MOST + 1;

        private final Village told;
        private final State now;
        private int loaf;
        private int stay;
        private int seed;
        /** By LOAF: by how many courses of the heat it comes. */
        private final int[] ways = new int[LOAVES];
        private final int[] waysBehind = new int[LOAVES];

        Outlook(Village told, State now) {
            this.told = told;
            this.now = now;
        }

        int loafBy(int soul, int deeds, int heat, int said) {
            if (soul < 0 || soul >= SOULS_MOST) {
                return 0;
            }
            return told.formula.loaf(deeds, now.stays[soul], now.olds[soul], heat, said);
        }

        int loafNow(int soul) {
            if (soul < 0 || soul >= SOULS_MOST) {
                return 0;
            }
            return loafBy(soul, now.deeds[soul], now.heat, countSayers());
        }

        private int countSayers() {
            return Integer.bitCount(now.sayers());
        }

        int deedsMaking(int soul, int wanted) {
            int said = countSayers();
            int making = 0;
            for (int deeds = 0; deeds < 1 << told.deeds; deeds++) {
                if (loafBy(soul, deeds, now.heat, said) == wanted) {
                    making |= 1 << deeds;
                }
            }
            return making;
        }

        int fewestDeeds(int soul, int least) {
            int said = countSayers();
            int best = NONE;
            for (int deeds = 0; deeds < 1 << told.deeds; deeds++) {
                boolean isFewer = best == NONE || Integer.bitCount(deeds) < Integer.bitCount(best);
                if (isFewer && loafBy(soul, deeds, now.heat, said) >= least) {
                    best = deeds;
                }
            }
            return best;
        }

        int heatsFor(int soul, int least) {
            if (soul < 0 || soul >= SOULS_MOST) {
                return NONE;
            }
            int said = countSayers();
            int heats = 0;
            for (int heat = 0; heat < HEATS; heat++) {
                if (loafBy(soul, now.deeds[soul], heat, said) >= least) {
                    heats |= 1 << heat;
                }
            }
            return heats;
        }

        private void start(int soul) {
            loaf = loafNow(soul);
            stay = soul < 0 || soul >= SOULS_MOST ? 0 : now.stays[soul];
            seed = now.seed;
        }

        /** A BREAD passes; behind it no DEEDS are done and none says a NAME. */
        private void step() {
            stay = Math.min(STAY_MOST, stay + 1);
            seed = State.seedBehind(seed);
            loaf = told.formula.loaf(0, stay, loaf, State.heatOf(seed), 0);
        }

        int loafBehind(int soul, int breads) {
            start(soul);
            for (int i = 0; i < breads; i++) {
                step();
            }
            return loaf;
        }

        int breadsTill(int soul, int least) {
            start(soul);
            for (int breads = 0; breads <= BREADS_AHEAD_MOST; breads++) {
                if (loaf >= least) {
                    return breads;
                }
                step();
            }
            return NONE;
        }

        /** Part 0: the upper one, 1: the lower one. */
        int oddsBehind(int soul, int breads, int least, int part) {
            start(soul);
            Arrays.fill(ways, 0);
            if (loaf >= 0 && loaf < LOAVES) {
                ways[loaf] = 1;
            }
            int all = 1;
            for (int i = 0; i < breads; i++) {
                stay = Math.min(STAY_MOST, stay + 1);
                spreadWays();
                all *= HEATS;
            }
            int hits = 0;
            for (int each = 0; each < LOAVES; each++) {
                if (each >= least) {
                    hits += ways[each];
                }
            }
            int divisor = Math.max(1, commonDivisor(hits, all));
            return (part == 0 ? hits : all) / divisor;
        }

        private void spreadWays() {
            Arrays.fill(waysBehind, 0);
            for (int old = 0; old < LOAVES; old++) {
                for (int heat = 0; heat < HEATS && ways[old] > 0; heat++) {
                    int each = told.formula.loaf(0, stay, old, heat, 0);
                    if (each >= 0 && each < LOAVES) {
                        waysBehind[each] += ways[old];
                    }
                }
            }
            System.arraycopy(waysBehind, 0, ways, 0, LOAVES);
        }

        private static int commonDivisor(int one, int other) {
            int large = other;
            int small = one;
            // Each two steps halve the larger number at least.
            for (int i = 0; i < 64 && small != 0; i++) {
                int left = large % small;
                large = small;
                small = left;
            }
            return large;
        }
    }

    /** REPORTS of somebody unknown, and what is known by them. */
    private static final class Reports {
        private static final int REPORTS_MOST = 30;
        private static final int TIME_MOST = 100000;
        private static final int LATER_MOST = 1000;
        private static final int NOT_YET = -1;
        private static final int COURSE_MOST = 10;
        private static final int NEVER = 99;

        private final Village told;
        int count;
        int time;
        private final int[] stays = new int[REPORTS_MOST];
        private final int[] olds = new int[REPORTS_MOST];
        private final int[] heats = new int[REPORTS_MOST];
        private final int[] loaves = new int[REPORTS_MOST];
        private final int[] timesTold = new int[REPORTS_MOST];
        private final int[] timesUntold = new int[REPORTS_MOST];
        private final int[] tally = new int[LOAF_MOST + 1];
        private final int[] candidates = new int[COURSE_MOST];
        private final int[] candidateLoaves = new int[COURSE_MOST];
        /** By heat and candidate: the candidates that have the same LOAF, as bits. */
        private final int[] sameBy = new int[HEATS * COURSE_MOST];
        /** By candidates, as bits: the fewest LOAVES that tell them apart; NONE: not reckoned yet. */
        private final int[] lengths = new int[1 << COURSE_MOST];
        private int candidateCount;

        Reports(Village told) {
            this.told = told;
        }

        void clear() {
            count = 0;
        }

        int tell(int stay, int old, int heat, int loaf) {
            boolean canBe = isHundredth(stay) && isHundredth(old) && isHundredth(loaf) && heat >= 0 && heat < HEATS;
            if (!canBe || count >= REPORTS_MOST) {
                return NONE;
            }
            stays[count] = stay;
            olds[count] = old;
            heats[count] = heat;
            loaves[count] = loaf;
            timesTold[count] = time;
            timesUntold[count] = NOT_YET;
            count++;
            return count - 1;
        }

        boolean takeBack(int number) {
            if (number < 0 || number >= count || timesUntold[number] != NOT_YET) {
                return false;
            }
            timesUntold[number] = time;
            return true;
        }

        int passTime(int by) {
            if (by < 0 || by > LATER_MOST || time + by > TIME_MOST) {
                return NONE;
            }
            time += by;
            return time;
        }

        /** The sets of DEEDS that FIT, as known at k (bit s: the set s). */
        int fittingSets(int k) {
            int fitting = 0;
            for (int deeds = 0; deeds < 1 << told.deeds; deeds++) {
                if (fitsAll(deeds, k)) {
                    fitting |= 1 << deeds;
                }
            }
            return fitting;
        }

        private boolean fitsAll(int deeds, int k) {
            for (int i = 0; i < count; i++) {
                boolean isUntold = timesUntold[i] != NOT_YET && timesUntold[i] <= k;
                if (timesTold[i] <= k && !isUntold
                        && told.formula.loaf(deeds, stays[i], olds[i], heats[i], 0) != loaves[i]) {
                    return false;
                }
            }
            return true;
        }

        int sureOf(int deed, int k) {
            int fitting = fittingSets(k);
            int having = 0;
            for (int deeds = 0; deeds < 1 << told.deeds; deeds++) {
                if ((deeds & (1 << deed)) != 0) {
                    having |= 1 << deeds;
                }
            }
            if (fitting == 0) {
                return NONE;
            }
            if ((fitting & having) == 0) {
                return 0;
            }
            return (fitting & ~having) == 0 ? 1 : NO_SUCH;
        }

        /** What 0: the heat to ASK by, 1: how many are left at the most. */
        int bestAsked(int stay, int old, int what, int k) {
            int fitting = fittingSets(k);
            if (fitting == 0) {
                return NONE;
            }
            int best = NONE;
            int fewest = NONE;
            for (int heat = 0; heat < HEATS; heat++) {
                int left = mostLeft(fitting, stay, old, heat);
                if (best == NONE || left < fewest) {
                    best = heat;
                    fewest = left;
                }
            }
            return what == 0 ? best : fewest;
        }

        private int mostLeft(int fitting, int stay, int old, int heat) {
            Arrays.fill(tally, 0);
            int most = 0;
            for (int deeds = 0; deeds < 1 << told.deeds; deeds++) {
                if ((fitting & (1 << deeds)) != 0) {
                    int loaf = told.formula.loaf(deeds, stay, old, heat, 0);
                    if (loaf >= 0 && loaf < tally.length) {
                        tally[loaf]++;
                        most = Math.max(most, tally[loaf]);
                    }
                }
            }
            return most;
        }

        /** What 0: how many LOAVES, 1: the heat to begin with. */
        int bestCourse(int what, int k) {
            int fitting = fittingSets(k);
            if (fitting == 0) {
                return NONE;
            }
            if (Integer.bitCount(fitting) > COURSE_MOST) {
                return NO_SUCH;
            }
            takeCandidates(fitting);
            int all = (1 << candidateCount) - 1;
            int least = lengthOf(all, 0);
            if (least == NEVER) {
                return NONE;
            }
            return what == 0 ? least : firstHeat(all, least);
        }

        private void takeCandidates(int fitting) {
            candidateCount = 0;
            for (int deeds = 0; deeds < 1 << told.deeds; deeds++) {
                if ((fitting & (1 << deeds)) != 0 && candidateCount < COURSE_MOST) {
                    candidates[candidateCount] = deeds;
                    candidateCount++;
                }
            }
            for (int heat = 0; heat < HEATS; heat++) {
                takeAlike(heat);
            }
            Arrays.fill(lengths, NONE);
        }

        private void takeAlike(int heat) {
            for (int one = 0; one < candidateCount; one++) {
                candidateLoaves[one] = told.formula.loaf(candidates[one], 0, 0, heat, 0);
            }
            for (int one = 0; one < candidateCount; one++) {
                int same = 0;
                for (int other = 0; other < candidateCount; other++) {
                    if (candidateLoaves[one] == candidateLoaves[other]) {
                        same |= 1 << other;
                    }
                }
                sameBy[heat * COURSE_MOST + one] = same;
            }
        }

        /** The fewest LOAVES that tell a group of candidates apart, or NEVER. */
        private int lengthOf(int group, int depth) {
            if (Integer.bitCount(group) <= 1) {
                return 0;
            }
            if (group < 0 || group >= lengths.length || depth > COURSE_MOST) {
                return NEVER;
            }
            if (lengths[group] == NONE) {
                int least = NEVER;
                for (int heat = 0; heat < HEATS; heat++) {
                    least = Math.min(least, 1 + lengthBehind(group, heat, depth));
                }
                lengths[group] = least;
            }
            return lengths[group];
        }

        /** The most that are still due behind a LOAF by that heat, whatever it is. */
        private int lengthBehind(int group, int heat, int depth) {
            int most = 0;
            int left = group;
            for (int one = 0; one < candidateCount && left != 0; one++) {
                if ((left & (1 << one)) != 0) {
                    int part = group & sameBy[heat * COURSE_MOST + one];
                    left &= ~part;
                    // A LOAF that tells nothing brings one no nearer.
                    most = Math.max(most, part == group ? NEVER : lengthOf(part, depth + 1));
                }
            }
            return most;
        }

        private int firstHeat(int all, int least) {
            if (least == 0) {
                return NONE;
            }
            for (int heat = 0; heat < HEATS; heat++) {
                if (1 + lengthBehind(all, heat, 0) == least) {
                    return heat;
                }
            }
            return NONE;
        }
    }
}
