/**
 * A crossbar with queues at its inputs. The document DOC.md says what each call answers; the words
 * in capitals there are the words of the comments here.
 */
public final class CrossbarHouse {
    public static final int NONE = -1;

    private static final int NOT_THERE = -2;
    private static final int TAPE_MOST = 600;
    private static final int FED_AT_ONCE = 20;
    private static final int IMAGES = 3;

    private static final int SORTS = 3;
    private static final int TEXTS_MOST = 2;
    private static final int CROSSBARS = 0;
    private static final int TRAFFICS = 1;
    private static final int LOGS = 2;

    private static final int PORTS_MOST = 6;
    private static final int DEPTH_MOST = 9;
    private static final int ROUNDS_MOST = 4;
    private static final int NEED_MOST = 6;
    private static final int DEEDS_MOST = 40;
    private static final int FACTS_MOST = 8;
    private static final int DRAWS_MOST = 60;
    private static final int FULL_SLOTS = 100;
    /** 60 draws of bursts for 6 OUTPUTS; the 40 DEEDS of a TRAFFIC bring fewer. */
    private static final int CAME_MOST = 360;
    /** 40 DEEDS that are idle 9; the 60 draws bring fewer. */
    private static final int SLOTS_MOST = 360;
    private static final int PAIRS_MOST = PORTS_MOST * PORTS_MOST;
    private static final int SETS_MOST = 1 << PORTS_MOST;
    private static final int FITS_MOST = ROUNDS_MOST * PORTS_MOST;
    /** Far above the SLOTS that any of the 144 CROSSBARS needs till its pointers come again. */
    private static final int RHYTHM_MOST = 60;

    private static final int BAR_PORTS = 0;
    private static final int BAR_ROUNDS = 1;
    private static final int BAR_DEPTH = 2;
    private static final int BAR_POINTER = 3;
    private static final int BAR_SIZE = 4;

    private static final int DEED_SLOT = 0;
    private static final int DEED_IDLE = 1;
    private static final int DEED_CELL = 2;
    private static final int DEED_FAN = 3;
    private static final int DEED_BURST = 4;

    private final Told told;
    private final Told[] images;
    private final boolean[] imaged;
    private final Reader reader;
    private final Run run;
    private final FullLoad fullLoad;
    private final Judges judges;
    private final Shadow shadow;
    private final Measures measures;
    private final Fitting fitting;

    public CrossbarHouse() {
        told = new Told();
        images = new Told[IMAGES];
        for (int k = 0; k < IMAGES; k++) {
            images[k] = new Told();
        }
        imaged = new boolean[IMAGES];
        reader = new Reader();
        run = new Run();
        fullLoad = new FullLoad();
        judges = new Judges();
        shadow = new Shadow();
        measures = new Measures();
        fitting = new Fitting();
    }

    public int feed(int a, int b, int c, int d, int e) {
        if (told.length + FED_AT_ONCE > TAPE_MOST) {
            return NONE;
        }
        told.put(a);
        told.put(b);
        told.put(c);
        told.put(d);
        told.put(e);
        return told.length;
    }

    public int end(int n) {
        if (n < 0 || n > told.length) {
            return NONE;
        }
        told.length = n;
        return n;
    }

    public int text(int sort, int at) {
        int length = told.length;
        told.length = 0;
        told.faultSort = 0;
        told.faultPlace = NONE;
        if (!told.hasRoom(sort, at)) {
            return NOT_THERE;
        }
        reader.read(told.tape, length, sort);
        told.faultSort = reader.faultSort;
        told.faultPlace = reader.faultPlace;
        if (reader.faultSort != 0) {
            return NONE;
        }
        return told.keep(sort, at, reader);
    }

    public int fault(int what) {
        if (what == 0) {
            return told.faultSort;
        }
        return what == 1 ? told.faultPlace : NONE;
    }

    public int crossbar(int crossbar, int what) {
        if (!told.has(CROSSBARS, crossbar) || what < 0 || what >= BAR_SIZE) {
            return NONE;
        }
        return told.bar(crossbar, what);
    }

    public int deed(int traffic, int k, int what) {
        return tellLine(TRAFFICS, traffic, k, what, 2);
    }

    public int stop(int crossbar, int traffic) {
        return begins(crossbar, traffic) ? run.follow(told, traffic, DEEDS_MOST) : NONE;
    }

    public int state(int crossbar, int traffic, int n, int what) {
        return reaches(crossbar, traffic, n) ? run.tell(what) : NOT_THERE;
    }

    public int cell(int crossbar, int traffic, int k, int what) {
        if (!begins(crossbar, traffic)) {
            return NOT_THERE;
        }
        run.follow(told, traffic, DEEDS_MOST);
        return run.came.tell(k, what);
    }

    public int full(int crossbar, int slot, int output) {
        if (!told.has(CROSSBARS, crossbar) || slot < 0 || slot >= FULL_SLOTS) {
            return NONE;
        }
        if (output < 0 || output >= told.bar(crossbar, BAR_PORTS)) {
            return NONE;
        }
        return fullLoad.inputAt(told, crossbar, slot, output);
    }

    public int rhythm(int crossbar, int what) {
        if (!told.has(CROSSBARS, crossbar)) {
            return NOT_THERE;
        }
        return fullLoad.tellRhythm(told, crossbar, what);
    }

    public int judge(int crossbar, int traffic, int n, int what) {
        return reaches(crossbar, traffic, n) ? judges.tell(run, what) : NOT_THERE;
    }

    public int mimic(int crossbar, int traffic, int k, int what) {
        if (what < 0 || what > 2 || !begins(crossbar, traffic)) {
            return NONE;
        }
        shadow.take(told, traffic, run.follow(told, traffic, DEEDS_MOST));
        if (k != NONE && (k < 0 || k >= shadow.size)) {
            return NONE;
        }
        return shadow.tell(k, what);
    }

    public int flow(int crossbar, int traffic, int k, int what) {
        if (!begins(crossbar, traffic)) {
            return NONE;
        }
        run.follow(told, traffic, DEEDS_MOST);
        measures.gatherFlows(run);
        return measures.tellFlow(run, k, what);
    }

    public int after(int crossbar, int traffic, int what) {
        if (!begins(crossbar, traffic)) {
            return NOT_THERE;
        }
        run.follow(told, traffic, DEEDS_MOST);
        return measures.tell(run, what);
    }

    public int fact(int log, int k, int what) {
        return tellLine(LOGS, log, k, what, 3);
    }

    public int fits(int crossbar, int traffic, int log, int what) {
        if (!told.has(CROSSBARS, crossbar) || !told.has(TRAFFICS, traffic) || !told.has(LOGS, log)) {
            return NOT_THERE;
        }
        fitting.begin(told.bar(crossbar, BAR_PORTS));
        for (int rounds = 1; rounds <= ROUNDS_MOST; rounds++) {
            for (int pointer = 0; pointer < fitting.ports; pointer++) {
                run.begin(told, crossbar, rounds, pointer);
                run.follow(told, traffic, DEEDS_MOST);
                fitting.keepIfSo(told, log, 10 * rounds + pointer, run.past);
            }
        }
        return fitting.tell(what);
    }

    public int drawn(int crossbar, int seed, int n, int what) {
        if (!told.has(CROSSBARS, crossbar) || n < 0 || n > DRAWS_MOST) {
            return NOT_THERE;
        }
        run.begin(told, crossbar);
        run.draw(seed, n);
        return run.tell(what);
    }

    public int count(int sort) {
        return sort < 0 || sort >= SORTS ? NOT_THERE : told.counts[sort];
    }

    public boolean image(int k) {
        if (k < 0 || k >= IMAGES) {
            return false;
        }
        images[k].copy(told);
        imaged[k] = true;
        return true;
    }

    public boolean again(int k) {
        if (k < 0 || k >= IMAGES || !imaged[k]) {
            return false;
        }
        told.copy(images[k]);
        return true;
    }

    /** The run stands at the beginning of a TRAFFIC in a CROSSBAR, if there are such. */
    private boolean begins(int crossbar, int traffic) {
        if (!told.has(CROSSBARS, crossbar) || !told.has(TRAFFICS, traffic)) {
            return false;
        }
        run.begin(told, crossbar);
        return true;
    }

    /** The run stands behind the first n DEEDS, if there is such a STATE. */
    private boolean reaches(int crossbar, int traffic, int n) {
        if (n < 0 || n > DEEDS_MOST || !begins(crossbar, traffic)) {
            return false;
        }
        return run.follow(told, traffic, n) == n;
    }

    private int tellLine(int sort, int at, int k, int what, int numbers) {
        if (!told.has(sort, at) || what < 0 || what > numbers) {
            return NOT_THERE;
        }
        int lines = told.lineCount(sort, at);
        if (k == NONE) {
            return what == 0 ? lines : NOT_THERE;
        }
        return k < 0 || k >= lines ? NOT_THERE : told.line(sort, at, k, what);
    }

    /** The first member of a set of numbers below size, from one of them on, behind the last 0 again. */
    private static int firstFrom(int set, int from, int size) {
        int at = from;
        for (int k = 0; k < size; k++) {
            if ((set >> at & 1) != 0) {
                return at;
            }
            at = at + 1 >= size ? 0 : at + 1;
        }
        return NONE;
    }

    private static boolean holds(int set, int k) {
        return (set >> k & 1) != 0;
    }

    private static int next(int k, int size) {
        return k + 1 >= size ? 0 : k + 1;
    }

    /** All that is told: the tape, the FAULT, the texts. An image is one more of these. */
    static final class Told {
        private static final int LINE_SIZE = 4;
        private static final int PLACES = 4;

        final byte[] tape = new byte[TAPE_MOST];
        int length = 0;
        int faultSort = 0;
        int faultPlace = NONE;
        final int[] counts = new int[SORTS];
        private final int[] bars = new int[TEXTS_MOST * BAR_SIZE];
        private final int[] lines = new int[PLACES * DEEDS_MOST * LINE_SIZE];
        private final int[] lineCounts = new int[PLACES];

        void put(int number) {
            for (int shift = 24; shift >= 0; shift -= 8) {
                if (length < TAPE_MOST) {
                    tape[length] = (byte) (number >> shift);
                    length++;
                }
            }
        }

        boolean has(int sort, int at) {
            return sort >= 0 && sort < SORTS && at >= 0 && at < counts[sort];
        }

        boolean hasRoom(int sort, int at) {
            if (at != NONE) {
                return has(sort, at);
            }
            return sort >= 0 && sort < SORTS && counts[sort] < TEXTS_MOST;
        }

        int bar(int crossbar, int what) {
            return bars[crossbar * BAR_SIZE + what];
        }

        /** TRAFFICS have the first two places of lines, LOGS the others. */
        private static int placeOf(int sort, int at) {
            return (sort - TRAFFICS) * TEXTS_MOST + at;
        }

        int lineCount(int sort, int at) {
            return lineCounts[placeOf(sort, at)];
        }

        /** Of line k: 0 its kind, from 1 on its numbers. */
        int line(int sort, int at, int k, int what) {
            return lines[(placeOf(sort, at) * DEEDS_MOST + k) * LINE_SIZE + what];
        }

        int keep(int sort, int at, Reader reader) {
            int to = at;
            if (at == NONE) {
                to = counts[sort];
                counts[sort]++;
            }
            if (sort == CROSSBARS) {
                System.arraycopy(reader.bar, 0, bars, to * BAR_SIZE, BAR_SIZE);
            } else {
                int place = placeOf(sort, to);
                int size = DEEDS_MOST * LINE_SIZE;
                System.arraycopy(reader.lines, 0, lines, place * size, size);
                lineCounts[place] = reader.lineCount;
            }
            return to;
        }

        void copy(Told other) {
            System.arraycopy(other.tape, 0, tape, 0, TAPE_MOST);
            length = other.length;
            faultSort = other.faultSort;
            faultPlace = other.faultPlace;
            System.arraycopy(other.counts, 0, counts, 0, SORTS);
            System.arraycopy(other.bars, 0, bars, 0, bars.length);
            System.arraycopy(other.lines, 0, lines, 0, lines.length);
            System.arraycopy(other.lineCounts, 0, lineCounts, 0, PLACES);
        }
    }

    /** Reads a text of a sort from the tape: what it tells, or the FAULT. */
    static final class Reader {
        private static final int TOKEN_END = 0;
        private static final int TOKEN_WORD = 1;
        private static final int TOKEN_NUMBER = 2;
        private static final int TOKEN_SEMICOLON = 3;
        private static final int TOKEN_BAD = 4;

        private static final int FAULT_TEXT = 1;
        private static final int FAULT_NUMBER = 2;
        private static final int FAULT_LIMIT = 3;

        /** Words by number: those of a sort stand together; the last number ends them. */
        private static final int[] FIRST_WORD = {0, 4, 9, 11};
        private static final int WORD_SLOT = 4;
        private static final int WORD_APART = 10;
        private static final int[] NUMBERS = {1, 1, 1, 1, 0, 1, 2, 2, 2, 3, 3};
        private static final int[] LEAST = {
            1, 0, 0, 1, 0, 0, 1, 0, 0, 0, 0, 0, 0, 0, 0, 1, 0, 0,
            0, 0, 0, 0, 1, 0, 0, 1, 0, 0, 0, 0, 0, 0, 0};
        private static final int[] GREATEST = {
            6, 0, 0, 4, 0, 0, 9, 0, 0, 5, 0, 0, 0, 0, 0, 9, 0, 0,
            5, 5, 0, 5, 63, 0, 5, 63, 0, 60, 5, 5, 60, 5, 5};
        private static final int NUMBERS_MOST = 3;

        final int[] bar = new int[BAR_SIZE];
        final int[] lines = new int[DEEDS_MOST * Told.LINE_SIZE];
        int lineCount;
        int faultSort;
        int faultPlace;
        private final int[] numbers = new int[NUMBERS_MOST];
        private byte[] tape;
        private int length;
        private int at;
        private int token;
        private int start;
        private int number;

        Reader() {
            tape = new byte[0];
        }

        void read(byte[] from, int size, int sort) {
            tape = from;
            length = Math.min(size, from.length);
            at = 0;
            lineCount = 0;
            faultSort = 0;
            faultPlace = NONE;
            bar[BAR_PORTS] = 4;
            bar[BAR_ROUNDS] = 2;
            bar[BAR_DEPTH] = 9;
            bar[BAR_POINTER] = 0;
            nextToken();
            boolean goesOn = true;
            for (int n = 0; n < TAPE_MOST && goesOn && token != TOKEN_END; n++) {
                goesOn = readLine(sort);
            }
        }

        private boolean readLine(int sort) {
            int word = wordHere(sort);
            if (word == NONE) {
                return noTextGoesOn();
            }
            if (lineCount >= limitOf(sort)) {
                noteFault(FAULT_LIMIT);
            }
            nextToken();
            for (int j = 0; j < NUMBERS_MOST; j++) {
                numbers[j] = NONE;
                if (j < NUMBERS[word]) {
                    if (token != TOKEN_NUMBER) {
                        return noTextGoesOn();
                    }
                    takeNumber(word, j);
                    nextToken();
                }
            }
            if (token != TOKEN_SEMICOLON) {
                return noTextGoesOn();
            }
            nextToken();
            keepLine(sort, word);
            return true;
        }

        private void takeNumber(int word, int j) {
            int range = word * NUMBERS_MOST + j;
            if (number < LEAST[range] || number > GREATEST[range]) {
                noteFault(FAULT_NUMBER);
            }
            numbers[j] = number;
        }

        private void keepLine(int sort, int word) {
            if (sort == CROSSBARS) {
                bar[word] = numbers[0];
                return;
            }
            if (lineCount >= limitOf(sort)) {
                return;
            }
            int place = lineCount * Told.LINE_SIZE;
            lines[place] = sort == TRAFFICS ? word - WORD_SLOT : WORD_APART - word;
            System.arraycopy(numbers, 0, lines, place + 1, NUMBERS_MOST);
            lineCount++;
        }

        private static int limitOf(int sort) {
            if (sort == CROSSBARS) {
                return TAPE_MOST;
            }
            return sort == TRAFFICS ? DEEDS_MOST : FACTS_MOST;
        }

        /** FAULT 1 goes before all others, wherever they are. */
        private boolean noTextGoesOn() {
            faultSort = FAULT_TEXT;
            faultPlace = start;
            return false;
        }

        /** Tokens come by place, so that the first one noted is the first by place. */
        private void noteFault(int sort) {
            if (faultSort == 0) {
                faultSort = sort;
                faultPlace = start;
            }
        }

        private int wordHere(int sort) {
            if (token != TOKEN_WORD) {
                return NONE;
            }
            for (int word = FIRST_WORD[sort]; word < FIRST_WORD[sort + 1]; word++) {
                if (isHere(letters(word))) {
                    return word;
                }
            }
            return NONE;
        }

        private boolean isHere(String word) {
            if (at - start != word.length()) {
                return false;
            }
            for (int k = 0; k < word.length(); k++) {
                if (tape[start + k] != word.charAt(k)) {
                    return false;
                }
            }
            return true;
        }

        private static String letters(int word) {
            switch (word) {
                case 0: return "ports";
                case 1: return "rounds";
                case 2: return "depth";
                case 3: return "pointer";
                case 4: return "slot";
                case 5: return "idle";
                case 6: return "cell";
                case 7: return "fan";
                case 8: return "burst";
                case 9: return "match";
                default: return "apart";
            }
        }

        private void nextToken() {
            while (at < length && (tape[at] == 10 || tape[at] == 32)) {
                at++;
            }
            start = at;
            if (at >= length) {
                token = TOKEN_END;
            } else if (isLetter(tape[at])) {
                takeWord();
            } else if (isDigit(tape[at])) {
                takeDigits();
            } else {
                token = tape[at] == ';' ? TOKEN_SEMICOLON : TOKEN_BAD;
                at++;
            }
        }

        private void takeWord() {
            token = TOKEN_WORD;
            while (at < length && isLetter(tape[at])) {
                at++;
            }
        }

        private void takeDigits() {
            number = 0;
            while (at < length && isDigit(tape[at])) {
                if (at - start < 2) {
                    number = number * 10 + tape[at] - '0';
                }
                at++;
            }
            token = at - start <= 2 ? TOKEN_NUMBER : TOKEN_BAD;
        }

        private static boolean isLetter(byte sign) {
            return sign >= 'a' && sign <= 'z';
        }

        private static boolean isDigit(byte sign) {
            return sign >= '0' && sign <= '9';
        }
    }

    /** The rounds of asking, granting, accepting, with their pointers. */
    static final class Matcher {
        int ports = 1;
        final int[] grant = new int[PORTS_MOST];
        final int[] accept = new int[PORTS_MOST];
        /** Of each OUTPUT the INPUTS (bits) that have CELLS for it. */
        final int[] wanted = new int[PORTS_MOST];
        /** Of each OUTPUT the INPUT that it is MATCHED with. */
        final int[] matched = new int[PORTS_MOST];
        int freeInputs;
        int freeOutputs;
        private final int[] granted = new int[PORTS_MOST];

        void begin(int portsNow, int pointer) {
            ports = Math.max(1, Math.min(PORTS_MOST, portsNow));
            for (int p = 0; p < PORTS_MOST; p++) {
                grant[p] = pointer % ports;
                accept[p] = pointer % ports;
                wanted[p] = 0;
            }
            free();
        }

        void free() {
            freeInputs = (1 << ports) - 1;
            freeOutputs = freeInputs;
            for (int o = 0; o < PORTS_MOST; o++) {
                matched[o] = NONE;
            }
        }

        /** How many were MATCHED in this round. */
        int passRound(boolean isFirst) {
            for (int i = 0; i < ports; i++) {
                granted[i] = 0;
            }
            for (int o = 0; o < ports; o++) {
                int asking = holds(freeOutputs, o) ? wanted[o] & freeInputs : 0;
                int i = asking == 0 ? NONE : firstFrom(asking, grant[o], ports);
                if (i != NONE) {
                    granted[i] |= 1 << o;
                }
            }
            int made = 0;
            for (int i = 0; i < ports; i++) {
                int o = granted[i] == 0 ? NONE : firstFrom(granted[i], accept[i], ports);
                if (o != NONE) {
                    pair(i, o, isFirst);
                    made++;
                }
            }
            return made;
        }

        private void pair(int i, int o, boolean isFirst) {
            matched[o] = i;
            freeInputs &= ~(1 << i);
            freeOutputs &= ~(1 << o);
            if (isFirst) {
                grant[o] = next(i, ports);
                accept[i] = next(o, ports);
            }
        }

        /** A round that matches nothing is the last one: all further ones are like it. */
        void passRounds(int rounds) {
            int made = 1;
            for (int r = 0; r < rounds && made > 0; r++) {
                made = passRound(r == 0);
            }
        }

        /** An INPUT and an OUTPUT that are both not BUSY have CELLS for one another. */
        boolean couldMatchMore() {
            for (int o = 0; o < ports; o++) {
                if (holds(freeOutputs, o) && (wanted[o] & freeInputs) != 0) {
                    return true;
                }
            }
            return false;
        }
    }

    /** CELLS and FANS that came, by number. */
    static final class Came {
        int size;
        final int[] input = new int[CAME_MOST];
        final int[] outputs = new int[CAME_MOST];
        final boolean[] isFan = new boolean[CAME_MOST];
        final int[] couldFirst = new int[CAME_MOST];
        final int[] went = new int[CAME_MOST];
        final boolean[] isLost = new boolean[CAME_MOST];
        /** Of a FAN in how many SLOTS it was sent. */
        final int[] sendings = new int[CAME_MOST];

        /** The number of the new one; NONE if no more can be held, which no run needs. */
        int add(int from, int to, boolean fan, int slot, boolean lost) {
            if (size >= CAME_MOST) {
                return NONE;
            }
            int k = size;
            input[k] = from;
            outputs[k] = to;
            isFan[k] = fan;
            couldFirst[k] = slot;
            went[k] = NONE;
            isLost[k] = lost;
            sendings[k] = 0;
            size++;
            return k;
        }

        int tell(int k, int what) {
            if (k < 0 || k >= size) {
                return NOT_THERE;
            }
            switch (what) {
                case 0: return input[k];
                case 1: return outputs[k];
                case 2: return isFan[k] ? 1 : 0;
                case 3: return couldFirst[k];
                case 4: return went[k];
                case 5: return isLost[k] ? 1 : 0;
                default: return NOT_THERE;
            }
        }

        int waitOf(int k) {
            return went[k] - couldFirst[k];
        }
    }

    /** SLOTS that went by, by number. */
    static final class Past {
        private static final int PAIR_BITS = 3;
        private static final int PAIR_MASK = 7;

        int slots;
        /** Of each SLOT by OUTPUTS, three bits each: 1 more than the INPUT it was MATCHED with, 0 for none. */
        final int[] pairs = new int[SLOTS_MOST];
        /** Of each SLOT the INPUTS (bits) that sent something. */
        final int[] senders = new int[SLOTS_MOST];
        /** Of each SLOT the OUTPUTS (bits) that were taken or MATCHED. */
        final int[] reached = new int[SLOTS_MOST];

        void note(Matcher matcher) {
            if (slots >= SLOTS_MOST) {
                return;
            }
            int row = 0;
            for (int o = 0; o < PORTS_MOST; o++) {
                row |= matcher.matched[o] + 1 << PAIR_BITS * o;
            }
            int all = (1 << matcher.ports) - 1;
            pairs[slots] = row;
            senders[slots] = all & ~matcher.freeInputs;
            reached[slots] = all & ~matcher.freeOutputs;
            slots++;
        }

        static int inputOf(int row, int output) {
            return (row >> PAIR_BITS * output & PAIR_MASK) - 1;
        }

        boolean wereMatched(int slot, int input, int output) {
            return slot >= 0 && slot < slots && inputOf(pairs[slot], output) == input;
        }
    }

    /** A TRAFFIC in a CROSSBAR, DEED after DEED. */
    static final class Run {
        final Came came = new Came();
        final Past past = new Past();
        final Matcher matcher = new Matcher();
        int ports = 1;
        private int rounds;
        private int depth;
        /** INPUTS (bits) from which a DEED came behind the last SLOT. */
        private int arrived;
        private int lost;
        private int cellsWent;
        private int fansWent;
        private int shut;
        private final int[] shutOf = new int[PORTS_MOST];
        private final int[] takenBy = new int[PORTS_MOST];
        /** How many CELLS a QUEUE has; its numbers, the first first. */
        final int[] cellsIn = new int[PAIRS_MOST];
        private final int[] cellRows = new int[PAIRS_MOST * DEPTH_MOST];
        final int[] fansIn = new int[PORTS_MOST];
        private final int[] fanRows = new int[PORTS_MOST * DEPTH_MOST];
        /** Of each INPUT the OUTPUTS (bits) that are LEFT of its HEAD; only a HEAD is ever sent. */
        private final int[] headLeft = new int[PORTS_MOST];
        private int drawX;

        void begin(Told told, int crossbar) {
            begin(told, crossbar, told.bar(crossbar, BAR_ROUNDS), told.bar(crossbar, BAR_POINTER));
        }

        void begin(Told told, int crossbar, int roundsNow, int pointer) {
            matcher.begin(told.bar(crossbar, BAR_PORTS), pointer);
            ports = matcher.ports;
            rounds = roundsNow;
            depth = Math.min(DEPTH_MOST, told.bar(crossbar, BAR_DEPTH));
            came.size = 0;
            past.slots = 0;
            arrived = 0;
            lost = 0;
            cellsWent = 0;
            fansWent = 0;
            shut = 0;
            for (int p = 0; p < PORTS_MOST; p++) {
                shutOf[p] = 0;
                takenBy[p] = NONE;
                fansIn[p] = 0;
                headLeft[p] = 0;
            }
            for (int q = 0; q < PAIRS_MOST; q++) {
                cellsIn[q] = 0;
            }
        }

        /** Up to the first n DEEDS; how many could be. */
        int follow(Told told, int traffic, int n) {
            int most = Math.min(n, told.lineCount(TRAFFICS, traffic));
            for (int k = 0; k < most; k++) {
                int kind = told.line(TRAFFICS, traffic, k, 0);
                int first = told.line(TRAFFICS, traffic, k, 1);
                int second = told.line(TRAFFICS, traffic, k, 2);
                int slots = slotsOf(kind, first);
                for (int s = 0; s < slots; s++) {
                    passSlot();
                }
                if (slots == 0 && !bring(kind, first, second)) {
                    return k;
                }
            }
            return most;
        }

        /** How many SLOTS go by; 0 if the DEED brings something. */
        static int slotsOf(int kind, int first) {
            if (kind == DEED_SLOT) {
                return 1;
            }
            return kind == DEED_IDLE ? first : 0;
        }

        /** Nothing comes, and false, if the DEED can't be. */
        private boolean bring(int kind, int first, int second) {
            int to = kind == DEED_CELL ? 1 << second : second;
            if (first < 0 || first >= ports || to >> ports != 0 || holds(arrived, first)) {
                return false;
            }
            arrived |= 1 << first;
            if (kind == DEED_CELL) {
                takeCell(first, second);
            } else if (kind == DEED_FAN) {
                takeFan(first, second);
            } else {
                takeBurst(first, second);
            }
            return true;
        }

        /** False if the CELL is LOST. */
        private boolean takeCell(int i, int o) {
            int queue = i * PORTS_MOST + o;
            boolean isLost = cellsIn[queue] >= depth;
            int number = came.add(i, 1 << o, false, past.slots, isLost);
            if (isLost || number == NONE) {
                lost++;
                return false;
            }
            cellRows[queue * DEPTH_MOST + cellsIn[queue]] = number;
            cellsIn[queue]++;
            matcher.wanted[o] |= 1 << i;
            return true;
        }

        private void takeFan(int i, int outputs) {
            boolean isLost = fansIn[i] >= depth;
            int number = came.add(i, outputs, true, past.slots, isLost);
            if (isLost || number == NONE) {
                lost++;
                return;
            }
            if (fansIn[i] == 0) {
                headLeft[i] = outputs;
            }
            fanRows[i * DEPTH_MOST + fansIn[i]] = number;
            fansIn[i]++;
        }

        private void takeBurst(int i, int outputs) {
            int opened = 0;
            boolean goesOn = true;
            for (int o = 0; o < ports && goesOn; o++) {
                if (holds(outputs, o)) {
                    opened |= 1 << o;
                    goesOn = takeCell(i, o);
                }
            }
            for (int o = ports - 1; o >= 0; o--) {
                if (holds(opened, o)) {
                    shut++;
                    shutOf[o] = shut;
                }
            }
        }

        private void passSlot() {
            matcher.free();
            for (int o = 0; o < PORTS_MOST; o++) {
                takenBy[o] = NONE;
            }
            int heads = inputsWithFans();
            if (heads != 0) {
                sendFans(heads);
            }
            matcher.passRounds(rounds);
            for (int o = 0; o < ports; o++) {
                if (matcher.matched[o] != NONE) {
                    sendCell(matcher.matched[o], o);
                }
            }
            past.note(matcher);
            arrived = 0;
        }

        private int inputsWithFans() {
            int heads = 0;
            for (int i = 0; i < ports; i++) {
                if (fansIn[i] > 0) {
                    heads |= 1 << i;
                }
            }
            return heads;
        }

        private void sendFans(int heads) {
            int served = mostApart(heads);
            for (int i = 0; i < ports; i++) {
                if (holds(served, i)) {
                    sendFan(i, headLeft[i]);
                }
            }
            for (int o = 0; o < ports; o++) {
                boolean isFree = holds(matcher.freeOutputs, o);
                for (int i = 0; i < ports && isFree; i++) {
                    if (holds(headLeft[i], o)) {
                        sendFan(i, 1 << o);
                        isFree = false;
                    }
                }
            }
            for (int i = 0; i < ports; i++) {
                if (!holds(matcher.freeInputs, i)) {
                    endSending(i);
                }
            }
        }

        /** Of the sets of most INPUTS no two of whose HEADS want one OUTPUT the least. */
        private int mostApart(int heads) {
            int best = 0;
            for (int set = 1; set <= heads; set++) {
                if ((set & ~heads) == 0 && Integer.bitCount(set) > Integer.bitCount(best) && areApart(set)) {
                    best = set;
                }
            }
            return best;
        }

        private boolean areApart(int set) {
            int wanted = 0;
            for (int i = 0; i < ports; i++) {
                int left = (set >> i & 1) != 0 ? headLeft[i] : 0;
                if ((wanted & left) != 0) {
                    return false;
                }
                wanted |= left;
            }
            return true;
        }

        private void sendFan(int i, int outputs) {
            headLeft[i] &= ~outputs;
            matcher.freeInputs &= ~(1 << i);
            matcher.freeOutputs &= ~outputs;
            for (int o = 0; o < ports; o++) {
                if (holds(outputs, o)) {
                    takenBy[o] = i;
                }
            }
        }

        /** Only behind all sending of a SLOT: a FAN behind a HEAD that is away waits for the next one. */
        private void endSending(int i) {
            int head = fanRows[i * DEPTH_MOST];
            came.sendings[head]++;
            if (headLeft[i] == 0) {
                came.went[head] = past.slots;
                fansWent++;
                fansIn[i]--;
                moveUp(fanRows, i * DEPTH_MOST, fansIn[i]);
                headLeft[i] = fansIn[i] == 0 ? 0 : came.outputs[fanRows[i * DEPTH_MOST]];
            }
        }

        private void sendCell(int i, int o) {
            int queue = i * PORTS_MOST + o;
            came.went[cellRows[queue * DEPTH_MOST]] = past.slots;
            cellsWent++;
            cellsIn[queue]--;
            moveUp(cellRows, queue * DEPTH_MOST, cellsIn[queue]);
            if (cellsIn[queue] == 0) {
                matcher.wanted[o] &= ~(1 << i);
            }
        }

        private static void moveUp(int[] row, int from, int size) {
            for (int k = from; k < from + size; k++) {
                row[k] = row[k + 1];
            }
        }

        void draw(int seed, int n) {
            drawX = seed;
            for (int k = 0; k < n; k++) {
                int sort = drawBelow(8);
                if (sort >= 6) {
                    passSlot();
                } else {
                    int i = drawBelow(ports);
                    if (sort < 4) {
                        bring(DEED_CELL, i, drawBelow(ports));
                    } else {
                        bring(sort == 4 ? DEED_FAN : DEED_BURST, i, 1 + drawBelow((1 << ports) - 1));
                    }
                }
            }
        }

        private int drawBelow(int n) {
            drawX = drawX * 1103515245 + 12345;
            return n > 0 ? (drawX >>> 16) % n : 0;
        }

        int tell(int what) {
            if (what < 10) {
                return tellSum(what);
            }
            int at = what % 10;
            if (at >= ports) {
                return NOT_THERE;
            }
            if (what >= 100) {
                int i = what / 10 - 10;
                return i >= ports ? NOT_THERE : cellsIn[i * PORTS_MOST + at];
            }
            switch (what / 10) {
                case 1: return matcher.accept[at];
                case 2: return matcher.grant[at];
                case 3: return fansIn[at];
                case 4: return headLeft[at];
                case 5: return shutOf[at];
                case 6: return matcher.matched[at];
                case 7: return takenBy[at];
                default: return NOT_THERE;
            }
        }

        private int tellSum(int what) {
            switch (what) {
                case 0: return past.slots;
                case 1: return came.size;
                case 2: return lost;
                case 3: return cellsWent;
                case 4: return fansWent;
                case 5: return shut;
                default: return NOT_THERE;
            }
        }

        /** As if a SLOT came now, there being no FANS; no CELL goes. */
        void matchNow() {
            matcher.free();
            matcher.passRounds(rounds);
        }
    }

    /** SLOTS in which no QUEUE is ever empty. */
    static final class FullLoad {
        private static final int POINTER_BITS = 3;

        private final Matcher matcher = new Matcher();
        private int rounds;
        /** All GRANTS and ACCEPTS behind so many SLOTS, in one number. */
        private final long[] pointers = new long[RHYTHM_MOST + 1];
        private final int[] made = new int[RHYTHM_MOST];
        private int slots;
        private int ago;

        private void begin(Told told, int crossbar) {
            matcher.begin(told.bar(crossbar, BAR_PORTS), told.bar(crossbar, BAR_POINTER));
            rounds = told.bar(crossbar, BAR_ROUNDS);
            for (int o = 0; o < matcher.ports; o++) {
                matcher.wanted[o] = (1 << matcher.ports) - 1;
            }
        }

        private void passSlot() {
            matcher.free();
            matcher.passRounds(rounds);
        }

        int inputAt(Told told, int crossbar, int slot, int output) {
            begin(told, crossbar);
            for (int s = 0; s <= slot; s++) {
                passSlot();
            }
            return matcher.matched[output];
        }

        int tellRhythm(Told told, int crossbar, int what) {
            begin(told, crossbar);
            findRhythm();
            switch (what) {
                case 0: return slots;
                case 1: return ago;
                case 2: return madeFrom(slots - ago);
                case 3: return stepAt();
                default: return NOT_THERE;
            }
        }

        private void findRhythm() {
            slots = 0;
            ago = 0;
            pointers[0] = pointersNow();
            for (int s = 0; s < RHYTHM_MOST && ago == 0; s++) {
                passSlot();
                made[s] = matcher.ports - Integer.bitCount(matcher.freeOutputs);
                slots = s + 1;
                pointers[slots] = pointersNow();
                for (int k = slots - 1; k >= 0 && ago == 0; k--) {
                    if (pointers[k] == pointers[slots]) {
                        ago = slots - k;
                    }
                }
            }
        }

        private long pointersNow() {
            long all = 0;
            for (int p = 0; p < matcher.ports; p++) {
                all = (all << POINTER_BITS | matcher.grant[p]) << POINTER_BITS | matcher.accept[p];
            }
            return all;
        }

        private int madeFrom(int first) {
            int sum = 0;
            for (int s = first; s < slots; s++) {
                sum += made[s];
            }
            return sum;
        }

        /** What comes behind is the SLOTS of the rhythm over again: they must all be whole. */
        private int stepAt() {
            int step = slots;
            while (step > 0 && made[step - 1] == matcher.ports) {
                step--;
            }
            return step <= slots - ago ? step : NONE;
        }
    }

    /** The most, the heaviest and the next match of a STATE. */
    static final class Judges {
        private static final int UNPAIRED = 6;

        /** The best sum of the INPUTS from one on, there being a set of OUTPUTS that are paired already. */
        private final int[] best = new int[(PORTS_MOST + 1) * SETS_MOST];
        private boolean weighs;

        int tell(Run run, int what) {
            switch (what) {
                case 0: return bestOf(run, false);
                case 1: return bestOf(run, true);
                case 2:
                    run.matchNow();
                    return run.ports - Integer.bitCount(run.matcher.freeOutputs);
                case 3:
                    run.matchNow();
                    return cellsOfMatched(run);
                case 4: return roundsNeeded(run.matcher);
                default: break;
            }
            if (what < 10 || what >= 10 + run.ports) {
                return NOT_THERE;
            }
            bestOf(run, true);
            return firstRow(run, what - 10);
        }

        private int bestOf(Run run, boolean byWeight) {
            weighs = byWeight;
            int sets = 1 << run.ports;
            for (int set = 0; set < sets; set++) {
                best[run.ports * SETS_MOST + set] = 0;
            }
            for (int i = run.ports - 1; i >= 0; i--) {
                for (int set = 0; set < sets; set++) {
                    best[i * SETS_MOST + set] = bestFrom(run, i, set);
                }
            }
            return best[0];
        }

        private int bestFrom(Run run, int i, int set) {
            int most = best[(i + 1) * SETS_MOST + set];
            for (int o = 0; o < run.ports; o++) {
                if (mayPair(run, i, o, set)) {
                    most = Math.max(most, sumWith(run, i, o, set));
                }
            }
            return most;
        }

        private static boolean mayPair(Run run, int i, int o, int set) {
            return !holds(set, o) && run.cellsIn[i * PORTS_MOST + o] > 0;
        }

        private int sumWith(Run run, int i, int o, int set) {
            int weight = weighs ? run.cellsIn[i * PORTS_MOST + o] : 1;
            return weight + best[(i + 1) * SETS_MOST + (set | 1 << o)];
        }

        /** Of an INPUT the OUTPUT by the first of the heaviest rows, the best sums being there. */
        private int firstRow(Run run, int input) {
            int set = 0;
            int chosen = UNPAIRED;
            for (int i = 0; i <= input; i++) {
                chosen = UNPAIRED;
                for (int o = run.ports - 1; o >= 0; o--) {
                    if (mayPair(run, i, o, set) && sumWith(run, i, o, set) == best[i * SETS_MOST + set]) {
                        chosen = o;
                    }
                }
                if (chosen != UNPAIRED) {
                    set |= 1 << chosen;
                }
            }
            return chosen;
        }

        private static int cellsOfMatched(Run run) {
            int sum = 0;
            for (int o = 0; o < run.ports; o++) {
                int i = run.matcher.matched[o];
                if (i != NONE) {
                    sum += run.cellsIn[i * PORTS_MOST + o];
                }
            }
            return sum;
        }

        private static int roundsNeeded(Matcher matcher) {
            matcher.free();
            int need = 0;
            boolean goesOn = true;
            for (int r = 0; r < NEED_MOST && goesOn; r++) {
                matcher.passRound(r == 0);
                need++;
                goesOn = matcher.couldMatchMore();
            }
            return need;
        }
    }

    /** Queues at the OUTPUTS, and a crossbar of a SPEED that mimics them. */
    static final class Shadow {
        private static final int YET_TO_COME = 0;
        private static final int IN_ROW = 1;
        private static final int AT_OUTPUT = 2;
        private static final int SENT = 3;
        /** Behind all SLOTS told each further SLOT takes a CELL out of a row, or sends one. */
        private static final int FURTHER_SLOTS = 2 * DEEDS_MOST;

        int size;
        private final int[] input = new int[DEEDS_MOST];
        private final int[] output = new int[DEEDS_MOST];
        private final int[] comes = new int[DEEDS_MOST];
        private final int[] ideal = new int[DEEDS_MOST];
        private final int[] sentIn = new int[DEEDS_MOST];
        private final int[] stands = new int[DEEDS_MOST];
        private final int[] rows = new int[PORTS_MOST * DEEDS_MOST];
        private final int[] rowSize = new int[PORTS_MOST];
        /** Of each INPUT the CELL that it keeps; of each OUTPUT whether one keeps it. */
        private final int[] kept = new int[PORTS_MOST];
        private final boolean[] isKept = new boolean[PORTS_MOST];
        /** Of each OUTPUT the IDEAL of the CELL by which it asked last. */
        private final int[] asked = new int[PORTS_MOST];

        void take(Told told, int traffic, int stop) {
            size = 0;
            int slot = 0;
            for (int k = 0; k < stop; k++) {
                int kind = told.line(TRAFFICS, traffic, k, 0);
                slot += Run.slotsOf(kind, told.line(TRAFFICS, traffic, k, 1));
                if (kind == DEED_CELL) {
                    input[size] = told.line(TRAFFICS, traffic, k, 1);
                    output[size] = told.line(TRAFFICS, traffic, k, 2);
                    comes[size] = slot;
                    size++;
                }
            }
            for (int k = 0; k < size; k++) {
                ideal[k] = NONE;
            }
            for (int n = 0; n < size; n++) {
                setNextIdeal();
            }
        }

        /** Of the first CELL that has no IDEAL yet: the SLOT behind all those before it at its OUTPUT. */
        private void setNextIdeal() {
            int first = NONE;
            for (int k = 0; k < size; k++) {
                if (ideal[k] == NONE && (first == NONE || comesBefore(k, first))) {
                    first = k;
                }
            }
            if (first == NONE) {
                return;
            }
            int slot = comes[first];
            for (int k = 0; k < size; k++) {
                if (ideal[k] != NONE && output[k] == output[first]) {
                    slot = Math.max(slot, ideal[k] + 1);
                }
            }
            ideal[first] = slot;
        }

        private boolean comesBefore(int a, int b) {
            return comes[a] != comes[b] ? comes[a] < comes[b] : input[a] < input[b];
        }

        int tell(int k, int what) {
            if (what == 0) {
                return k == NONE ? size : ideal[k];
            }
            passAll(what);
            if (k != NONE) {
                return sentIn[k];
            }
            int late = 0;
            for (int c = 0; c < size; c++) {
                if (sentIn[c] > ideal[c]) {
                    late++;
                }
            }
            return late;
        }

        private void passAll(int speed) {
            for (int i = 0; i < PORTS_MOST; i++) {
                rowSize[i] = 0;
            }
            for (int k = 0; k < size; k++) {
                stands[k] = YET_TO_COME;
                sentIn[k] = NONE;
            }
            int sent = 0;
            for (int slot = 0; slot < SLOTS_MOST + FURTHER_SLOTS && sent < size; slot++) {
                comeAll(slot);
                matchStable();
                sent += sendAll(slot);
                if (speed == 2) {
                    matchStable();
                }
            }
        }

        private void comeAll(int slot) {
            for (int k = 0; k < size; k++) {
                if (comes[k] == slot) {
                    putInRow(k);
                    stands[k] = IN_ROW;
                }
            }
        }

        private void putInRow(int cell) {
            int ahead = 0;
            for (int k = 0; k < size; k++) {
                if (stands[k] == AT_OUTPUT && output[k] == output[cell] && ideal[k] < ideal[cell]) {
                    ahead++;
                }
            }
            int i = input[cell];
            int from = i * DEEDS_MOST;
            int at = Math.min(ahead, rowSize[i]);
            for (int k = from + rowSize[i]; k > from + at; k--) {
                rows[k] = rows[k - 1];
            }
            rows[from + at] = cell;
            rowSize[i]++;
        }

        /** Each CELL is asked for once at most, so that the askings come to an end. */
        private void matchStable() {
            for (int p = 0; p < PORTS_MOST; p++) {
                kept[p] = NONE;
                isKept[p] = false;
                asked[p] = NONE;
            }
            boolean goesOn = true;
            for (int n = 0; n <= size && goesOn; n++) {
                goesOn = false;
                for (int o = 0; o < PORTS_MOST; o++) {
                    if (!isKept[o] && askNext(o)) {
                        goesOn = true;
                    }
                }
            }
            for (int i = 0; i < PORTS_MOST; i++) {
                if (kept[i] != NONE) {
                    takeFromRow(i, kept[i]);
                    stands[kept[i]] = AT_OUTPUT;
                }
            }
        }

        /** False if there is no further CELL by which this OUTPUT can ask. */
        private boolean askNext(int o) {
            int cell = leastIdeal(o, IN_ROW, asked[o]);
            if (cell == NONE) {
                return false;
            }
            asked[o] = ideal[cell];
            int i = input[cell];
            if (kept[i] == NONE || isAhead(i, cell, kept[i])) {
                if (kept[i] != NONE) {
                    isKept[output[kept[i]]] = false;
                }
                kept[i] = cell;
                isKept[o] = true;
            }
            return true;
        }

        private int leastIdeal(int o, int standing, int above) {
            int least = NONE;
            for (int k = 0; k < size; k++) {
                if (stands[k] == standing && output[k] == o && ideal[k] > above
                        && (least == NONE || ideal[k] < ideal[least])) {
                    least = k;
                }
            }
            return least;
        }

        private boolean isAhead(int i, int cell, int other) {
            int from = i * DEEDS_MOST;
            for (int k = from; k < from + rowSize[i]; k++) {
                if (rows[k] == cell || rows[k] == other) {
                    return rows[k] == cell;
                }
            }
            return false;
        }

        private void takeFromRow(int i, int cell) {
            int from = i * DEEDS_MOST;
            int to = from;
            for (int k = from; k < from + rowSize[i]; k++) {
                if (rows[k] != cell) {
                    rows[to] = rows[k];
                    to++;
                }
            }
            rowSize[i] = to - from;
        }

        private int sendAll(int slot) {
            int sent = 0;
            for (int o = 0; o < PORTS_MOST; o++) {
                int cell = leastIdeal(o, AT_OUTPUT, NONE);
                if (cell != NONE) {
                    stands[cell] = SENT;
                    sentIn[cell] = slot;
                    sent++;
                }
            }
            return sent;
        }
    }

    /** Flows and waits behind all DEEDS up to STOP. */
    static final class Measures {
        private int flows;
        /** FLOWS in their order, each 10 times the INPUT, and the OUTPUT. */
        private final int[] order = new int[PAIRS_MOST];
        private final int[] wentBy = new int[PAIRS_MOST];

        void gatherFlows(Run run) {
            flows = 0;
            for (int q = 0; q < PAIRS_MOST; q++) {
                wentBy[q] = 0;
            }
            for (int s = 0; s < run.past.slots; s++) {
                for (int o = 0; o < run.ports; o++) {
                    int i = Past.inputOf(run.past.pairs[s], o);
                    if (i != NONE) {
                        noteCell(i, o);
                    }
                }
            }
        }

        private void noteCell(int i, int o) {
            int queue = i * PORTS_MOST + o;
            if (wentBy[queue] == 0) {
                order[flows] = 10 * i + o;
                flows++;
            }
            wentBy[queue]++;
        }

        int tellFlow(Run run, int k, int what) {
            if (k == NONE) {
                return what == 0 ? flows : NONE;
            }
            if (k < 0 || k >= flows) {
                return NONE;
            }
            switch (what) {
                case 0: return order[k];
                case 1: return wentBy[queueOf(order[k])];
                case 2: return run.cellsIn[queueOf(order[k])];
                default: return NONE;
            }
        }

        private static int queueOf(int flow) {
            return flow / 10 * PORTS_MOST + flow % 10;
        }

        int tell(Run run, int what) {
            switch (what) {
                case 0: return longestWait(run.came);
                case 1: return sumOfWaits(run.came);
                case 2: return worst(run.came);
                case 3: return splits(run.came);
                case 4: return idleSlots(run.past);
                case 5: return bestSlot(run.past);
                case 6: return fairest(run);
                case 7: return meets(run.past);
                case 8: return starved(run);
                case 9: return alikeInputs(run);
                default: break;
            }
            return what < 10 || what >= 10 + run.ports ? NOT_THERE : turns(run.past, what - 10);
        }

        private static int worst(Came came) {
            int worst = NONE;
            for (int k = 0; k < came.size; k++) {
                if (came.went[k] != NONE && (worst == NONE || came.waitOf(k) > came.waitOf(worst))) {
                    worst = k;
                }
            }
            return worst;
        }

        private static int longestWait(Came came) {
            int worst = worst(came);
            return worst == NONE ? 0 : came.waitOf(worst);
        }

        private static int sumOfWaits(Came came) {
            int sum = 0;
            for (int k = 0; k < came.size; k++) {
                if (came.went[k] != NONE) {
                    sum += came.waitOf(k);
                }
            }
            return sum;
        }

        private static int splits(Came came) {
            int splits = 0;
            for (int k = 0; k < came.size; k++) {
                if (came.sendings[k] > 1) {
                    splits++;
                }
            }
            return splits;
        }

        private static int idleSlots(Past past) {
            int idle = 0;
            for (int s = 0; s < past.slots; s++) {
                if (past.reached[s] == 0) {
                    idle++;
                }
            }
            return idle;
        }

        private static int bestSlot(Past past) {
            int best = NONE;
            int most = NONE;
            for (int s = 0; s < past.slots; s++) {
                int reached = Integer.bitCount(past.reached[s]);
                if (reached > most) {
                    most = reached;
                    best = s;
                }
            }
            return best;
        }

        private int fairest(Run run) {
            gatherFlows(run);
            int fair = NONE;
            for (int k = 0; k < flows; k++) {
                if (fair == NONE || wentBy[queueOf(order[k])] < wentBy[queueOf(fair)]) {
                    fair = order[k];
                }
            }
            return fair;
        }

        private static int meets(Past past) {
            int meets = 0;
            for (int s = 0; s < past.slots; s++) {
                if (past.pairs[s] != 0) {
                    for (int t = s + 1; t < past.slots; t++) {
                        if (past.pairs[t] == past.pairs[s]) {
                            meets++;
                        }
                    }
                }
            }
            return meets;
        }

        private static int starved(Run run) {
            int first = run.past.slots - run.ports;
            if (first < 0) {
                return 0;
            }
            int starved = 0;
            for (int i = 0; i < run.ports; i++) {
                if (hasSomething(run, i)) {
                    starved |= 1 << i;
                }
            }
            for (int s = first; s < run.past.slots; s++) {
                starved &= ~run.past.senders[s];
            }
            return starved;
        }

        private static boolean hasSomething(Run run, int i) {
            boolean has = run.fansIn[i] > 0;
            for (int o = 0; o < run.ports; o++) {
                has = has || run.cellsIn[i * PORTS_MOST + o] > 0;
            }
            return has;
        }

        private static int alikeInputs(Run run) {
            int couples = 0;
            for (int i = 0; i < run.ports; i++) {
                for (int j = i + 1; j < run.ports; j++) {
                    if (areAlike(run, i, j)) {
                        couples++;
                    }
                }
            }
            return couples;
        }

        private static boolean areAlike(Run run, int i, int j) {
            for (int o = 0; o < run.ports; o++) {
                if (run.cellsIn[i * PORTS_MOST + o] != run.cellsIn[j * PORTS_MOST + o]) {
                    return false;
                }
            }
            return true;
        }

        private static int turns(Past past, int output) {
            int turns = 0;
            int before = NONE;
            for (int s = 0; s < past.slots; s++) {
                int i = Past.inputOf(past.pairs[s], output);
                if (i != NONE) {
                    if (before != NONE && before != i) {
                        turns++;
                    }
                    before = i;
                }
            }
            return turns;
        }
    }

    /** The ROUNDS and POINTERS by which a LOG can be. */
    static final class Fitting {
        int ports;
        private int size;
        private int slots;
        /** Those that FIT, rising, each 10 times the ROUNDS, and the POINTER. */
        private final int[] fitting = new int[FITS_MOST];
        /** By each of these what was MATCHED in each SLOT, as in Past. */
        private final int[] pairs = new int[FITS_MOST * SLOTS_MOST];
        private final int[] tally = new int[PORTS_MOST + 1];

        void begin(int portsNow) {
            size = 0;
            slots = 0;
            ports = portsNow;
        }

        void keepIfSo(Told told, int log, int fit, Past past) {
            if (size >= FITS_MOST || !allSo(told, log, past)) {
                return;
            }
            slots = past.slots;
            fitting[size] = fit;
            System.arraycopy(past.pairs, 0, pairs, size * SLOTS_MOST, slots);
            size++;
        }

        private static boolean allSo(Told told, int log, Past past) {
            int facts = told.lineCount(LOGS, log);
            for (int k = 0; k < facts; k++) {
                int slot = told.line(LOGS, log, k, 1);
                int input = told.line(LOGS, log, k, 2);
                int output = told.line(LOGS, log, k, 3);
                boolean isMatch = told.line(LOGS, log, k, 0) == 1;
                if (past.wereMatched(slot, input, output) != isMatch) {
                    return false;
                }
            }
            return true;
        }

        int tell(int what) {
            switch (what) {
                case 0: return size;
                case 1: return sureOf(true);
                case 2: return sureOf(false);
                case 3: return bestToAsk();
                default: break;
            }
            return what < 10 || what >= 10 + size ? NOT_THERE : fitting[what - 10];
        }

        private int sureOf(boolean ofRounds) {
            int sure = NONE;
            for (int k = 0; k < size; k++) {
                int part = ofRounds ? fitting[k] / 10 : fitting[k] % 10;
                if (k > 0 && part != sure) {
                    return NONE;
                }
                sure = part;
            }
            return sure;
        }

        private int bestToAsk() {
            int best = NONE;
            int least = size;
            for (int s = 0; s < slots && size > 0; s++) {
                for (int o = 0; o < ports; o++) {
                    int most = mostAlike(s, o);
                    if (best == NONE || most < least) {
                        least = most;
                        best = 10 * s + o;
                    }
                }
            }
            return best;
        }

        /** The greatest number of those that FIT by which this OUTPUT has one and the same INPUT, or none. */
        private int mostAlike(int slot, int output) {
            for (int k = 0; k <= PORTS_MOST; k++) {
                tally[k] = 0;
            }
            int most = 0;
            for (int k = 0; k < size; k++) {
                int answer = Past.inputOf(pairs[k * SLOTS_MOST + slot], output) + 1;
                if (answer >= 0 && answer <= PORTS_MOST) {
                    tally[answer]++;
                    most = Math.max(most, tally[answer]);
                }
            }
            return most;
        }
    }
}
