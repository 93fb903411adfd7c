import java.util.NoSuchElementException;

/**
 * A labyrinth garden with walkers of few wits, as ../shared/DOC.md tells it. Every row is made with the object and used
 * again, so that no call makes anything but the exceptions of look.
 */
public final class LabyrinthGarden {
    public static final int NONE = -1;

    private static final int NOT_SO_MANY_BYTES = -2;

    private static final int TO_MARK = 0;
    private static final int TO_SHUT = 1;

    private final Tape tape;
    private final Reader reader;
    private final Garden garden;
    private final Walker walker;
    private final Report report;
    private final Helper helper;
    private final Tale story;
    private final Homer homer;
    private Rules rulesInUse;
    private Rules rulesToFill;

    public LabyrinthGarden() {
        tape = new Tape();
        reader = new Reader(tape);
        garden = new Garden();
        rulesInUse = new Rules();
        rulesToFill = new Rules();
        walker = new Walker(garden, rulesInUse);
        report = new Report();
        helper = new Helper(garden, walker);
        story = new Tale(garden);
        homer = new Homer(garden);
    }

    public int feed(int a, int b, int c, int d, int e) {
        if (!tape.hasRoom()) {
            return NONE;
        }
        tape.add(a);
        tape.add(b);
        tape.add(c);
        tape.add(d);
        tape.add(e);
        return tape.size;
    }

    public int rules(int n) {
        if (n < 0 || n > tape.size) {
            return NOT_SO_MANY_BYTES;
        }
        reader.read(n, rulesToFill);
        tape.size = 0;
        if (reader.fault != Reader.NO_FAULT) {
            return NONE;
        }
        Rules old = rulesInUse;
        rulesInUse = rulesToFill;
        rulesToFill = old;
        return rulesInUse.lines;
    }

    public int fault(int what) {
        switch (what) {
            case 0:
                return reader.fault;
            case 1:
                return reader.faultAt;
            default:
                return NONE;
        }
    }

    public void anew() {
        garden.clear();
        story.forget();
    }

    public int junction(boolean out) {
        return garden.addJunction(out);
    }

    public int path(int a, int b) {
        int added = garden.addPath(a, b);
        if (added != NONE) {
            story.forget();
        }
        return added;
    }

    public boolean mark(int junction, boolean on) {
        if (!garden.hasJunction(junction)) {
            return false;
        }
        garden.marks = withBit(garden.marks, junction, on);
        return true;
    }

    public boolean period(int beats) {
        if (beats < 1 || beats > Garden.MOST_BEATS) {
            return false;
        }
        garden.beats = beats;
        return true;
    }

    public boolean gate(int path, int bits) {
        if (!garden.hasPath(path) || bits < 0 || bits > Garden.ALWAYS_OPEN) {
            return false;
        }
        garden.gates[path] = bits;
        return true;
    }

    public boolean shut(int path, boolean on) {
        if (!garden.hasPath(path)) {
            return false;
        }
        garden.shuts = withBit(garden.shuts, path, on);
        return true;
    }

    public int place(int junction, int end) {
        return garden.placeOf(junction, end);
    }

    public int walk(int place) {
        if (rulesInUse.lines == 0 || !garden.hasPlace(place)) {
            return NONE;
        }
        walker.prepare(rulesInUse);
        boolean out = walker.comesOut(place, garden.marks, 0);
        return report.take(walker, out);
    }

    public int walked(int what) {
        return what < 0 || what >= Report.ROWS ? NONE : report.rows[what];
    }

    public long lost() {
        if (rulesInUse.lines == 0) {
            return NONE;
        }
        walker.prepare(rulesInUse);
        long bits = 0;
        for (int place = 0; place < garden.places; place++) {
            if (!walker.comesOut(place, garden.marks, 0)) {
                bits |= 1L << place;
            }
        }
        return bits;
    }

    public int help(int what) {
        if (rulesInUse.lines == 0 || (what != TO_MARK && what != TO_SHUT)) {
            return NONE;
        }
        walker.prepare(rulesInUse);
        return helper.seek(what);
    }

    public int helped(int k) {
        return k < 0 || k >= helper.keptCount ? NONE : helper.kept[k];
    }

    public long tale(int ends) {
        if (!isSeeable(ends)) {
            return NONE;
        }
        story.begin(ends);
        return story.here;
    }

    public long turn(int k, int ends) {
        if (!story.canGoOn() || k < 0 || k > 9 || !isSeeable(ends)) {
            return NONE;
        }
        story.goOn(k, ends);
        return story.here;
    }

    public int home() {
        return homer.seek();
    }

    public int homing(int k) {
        return k < 0 || k >= homer.keptCount ? NONE : homer.kept[k];
    }

    public int look(int place, int what) throws IndexOutOfBoundsException, NoSuchElementException {
        if (!garden.hasPlace(place)) {
            throw new IndexOutOfBoundsException("no such place");
        }
        switch (what) {
            case 0:
                return garden.junctionAt[place];
            case 1:
                return garden.endAt[place];
            case 2:
                return garden.pathAt[place];
            case 3:
                return garden.otherOf[place];
            default:
                throw new NoSuchElementException("no such what");
        }
    }

    public int count(int what) {
        switch (what) {
            case 0:
                return garden.junctions;
            case 1:
                return garden.paths;
            case 2:
                return garden.places;
            case 3:
                return Integer.bitCount(garden.marks);
            case 4:
                return story.turns;
            case 5:
                return rulesInUse.lines;
            default:
                return NONE;
        }
    }

    private static boolean isSeeable(int ends) {
        return ends >= 0 && ends <= Garden.MOST_ENDS;
    }

    private static int withBit(int bits, int index, boolean on) {
        return on ? bits | 1 << index : bits & ~(1 << index);
    }

    private static boolean hasBit(int bits, int index) {
        return (bits >>> index & 1) != 0;
    }

    /** The bytes that came and were not read yet. */
    private static final class Tape {
        static final int MOST_BYTES = 300;
        static final int BYTES_OF_A_FEED = 20;

        final int[] bytes = new int[MOST_BYTES];
        int size = 0;

        boolean hasRoom() {
            return size + BYTES_OF_A_FEED <= MOST_BYTES;
        }

        void add(int four) {
            for (int shift = 24; shift >= 0 && size < MOST_BYTES; shift -= 8) {
                bytes[size] = four >>> shift & 255;
                size++;
            }
        }
    }

    /** The lines of a text: each STATE has room for two ACTS, side by side. */
    private static final class Rules {
        static final int MOST_STATES = 4;
        static final int MOST_ACTS = 2 * MOST_STATES;

        static final int STAY = 0;
        static final int TAKE = 1;
        static final int DROP = 2;

        final int[] number = new int[MOST_ACTS];
        final int[] deed = new int[MOST_ACTS];
        final int[] next = new int[MOST_ACTS];
        int lines = 0;
        int firstState = 0;
        int told = 0;
        int forked = 0;

        void clear() {
            lines = 0;
            firstState = 0;
            told = 0;
            forked = 0;
        }

        void addLine(int state) {
            if (lines == 0) {
                firstState = state;
            }
            lines++;
            told = withBit(told, state, true);
        }

        int actOf(int state, boolean marked) {
            return marked || !hasBit(forked, state) ? 2 * state : 2 * state + 1;
        }

        int marksAfter(int act, int marks, int junction) {
            switch (deed[act]) {
                case TAKE:
                    return withBit(marks, junction, false);
                case DROP:
                    return withBit(marks, junction, true);
                default:
                    return marks;
            }
        }
    }

    /** Reads a text into RULES, up to its first FAULT. */
    private static final class Reader {
        static final int NO_FAULT = 0;
        static final int WRONG_TOKEN = 1;
        static final int NUMBER_TOO_HIGH = 2;
        static final int TOLD_TWICE = 3;
        static final int NOT_TOLD = 4;

        /** Kinds of TOKENS, a bit each, so that several may stand at one place. */
        static final int NO_TOKEN = 0;
        static final int TEXT_END = 1;
        static final int STATE = 2;
        static final int NUMBER = 4;
        static final int DEED = 8;
        static final int COLON = 16;
        static final int BAR = 32;
        static final int SEMICOLON = 64;

        static final int WORD_STAY = 's' << 24 | 't' << 16 | 'a' << 8 | 'y';
        static final int WORD_TAKE = 't' << 24 | 'a' << 16 | 'k' << 8 | 'e';
        static final int WORD_DROP = 'd' << 24 | 'r' << 16 | 'o' << 8 | 'p';

        int fault = NO_FAULT;
        int faultAt = NONE;

        private final int[] text;
        private int length = 0;
        private int position = 0;
        private int token = NO_TOKEN;
        private int tokenAt = 0;
        private int tokenValue = 0;

        private final int[] meant = new int[Rules.MOST_ACTS];
        private final int[] meantAt = new int[Rules.MOST_ACTS];
        private int meantCount = 0;

        Reader(Tape tape) {
            text = tape.bytes;
        }

        void read(int bytes, Rules into) {
            length = Math.min(bytes, text.length);
            position = 0;
            fault = NO_FAULT;
            faultAt = NONE;
            meantCount = 0;
            into.clear();
            // A line more than there are STATES has a STATE that was told: it ends by a FAULT.
            for (int line = 0; line <= Rules.MOST_STATES; line++) {
                if (!takes(STATE | TEXT_END) || token == TEXT_END || !readLine(into)) {
                    break;
                }
            }
            if (fault == NO_FAULT) {
                findNotTold(into);
            }
        }

        /** Reads on behind a line's STATE; false with a FAULT. */
        private boolean readLine(Rules into) {
            int state = tokenValue;
            if (hasBit(into.told, state)) {
                fail(TOLD_TWICE, tokenAt);
                return false;
            }
            into.addLine(state);
            if (!takes(COLON) || !readAct(into, 2 * state) || !takes(BAR | SEMICOLON)) {
                return false;
            }
            if (token == SEMICOLON) {
                return true;
            }
            into.forked = withBit(into.forked, state, true);
            return readAct(into, 2 * state + 1) && takes(SEMICOLON);
        }

        private boolean readAct(Rules into, int act) {
            if (!takes(NUMBER)) {
                return false;
            }
            if (tokenValue > 9) {
                fail(NUMBER_TOO_HIGH, tokenAt);
                return false;
            }
            into.number[act] = tokenValue;
            if (!takes(DEED)) {
                return false;
            }
            into.deed[act] = tokenValue;
            if (!takes(STATE)) {
                return false;
            }
            into.next[act] = tokenValue;
            if (meantCount < Rules.MOST_ACTS) {
                meant[meantCount] = tokenValue;
                meantAt[meantCount] = tokenAt;
                meantCount++;
            }
            return true;
        }

        private void findNotTold(Rules into) {
            for (int i = 0; i < meantCount; i++) {
                if (!hasBit(into.told, meant[i])) {
                    fail(NOT_TOLD, meantAt[i]);
                    return;
                }
            }
        }

        private void fail(int kind, int at) {
            fault = kind;
            faultAt = at;
        }

        /** Takes the next TOKEN; false, and a FAULT, if it is none of these kinds. */
        private boolean takes(int kinds) {
            while (position < length && isBlank(text[position])) {
                position++;
            }
            tokenAt = position;
            if (position >= length) {
                token = TEXT_END;
            } else if (isDigit(text[position])) {
                takeNumber();
            } else if (isLetter(text[position])) {
                takeLetters();
            } else {
                token = signOf(text[position]);
                position++;
            }
            if ((token & kinds) == 0) {
                fail(WRONG_TOKEN, tokenAt);
                return false;
            }
            return true;
        }

        private void takeNumber() {
            token = NUMBER;
            tokenValue = 0;
            while (position < length && isDigit(text[position])) {
                // Above 9 it is too high whatever follows; left there it can't overflow.
                if (tokenValue <= 9) {
                    tokenValue = 10 * tokenValue + text[position] - '0';
                }
                position++;
            }
        }

        private void takeLetters() {
            int word = 0;
            while (position < length && isLetter(text[position])) {
                word = word << 8 | text[position];
                position++;
            }
            int letters = position - tokenAt;
            token = NO_TOKEN;
            if (letters == 1 && word - 'a' < Rules.MOST_STATES) {
                token = STATE;
                tokenValue = word - 'a';
            } else if (letters == 4) {
                takeDeed(word);
            }
        }

        private void takeDeed(int word) {
            token = DEED;
            switch (word) {
                case WORD_STAY:
                    tokenValue = Rules.STAY;
                    break;
                case WORD_TAKE:
                    tokenValue = Rules.TAKE;
                    break;
                case WORD_DROP:
                    tokenValue = Rules.DROP;
                    break;
                default:
                    token = NO_TOKEN;
                    break;
            }
        }

        private static int signOf(int sign) {
            switch (sign) {
                case ':':
                    return COLON;
                case '|':
                    return BAR;
                case ';':
                    return SEMICOLON;
                default:
                    return NO_TOKEN;
            }
        }

        private static boolean isBlank(int sign) {
            return sign == 10 || sign == 32;
        }

        private static boolean isDigit(int sign) {
            return sign >= '0' && sign <= '9';
        }

        private static boolean isLetter(int sign) {
            return sign >= 'a' && sign <= 'z';
        }
    }

    /** JUNCTIONS, PATHS and the PLACES that they make; sets of them are bits. */
    private static final class Garden {
        static final int MOST_JUNCTIONS = 8;
        static final int MOST_PATHS = 12;
        static final int MOST_PLACES = 2 * MOST_PATHS;
        static final int MOST_ENDS = 6;
        static final int MOST_BEATS = 8;
        static final int ALWAYS_OPEN = 255;

        int junctions = 0;
        int paths = 0;
        int places = 0;
        int outs = 0;
        int marks = 0;
        int shuts = 0;
        int beats = 1;
        final int[] gates = new int[MOST_PATHS];
        final int[] endsOf = new int[MOST_JUNCTIONS];
        final int[] firstPlaceOf = new int[MOST_JUNCTIONS];
        final int[] junctionAt = new int[MOST_PLACES];
        final int[] endAt = new int[MOST_PLACES];
        final int[] pathAt = new int[MOST_PLACES];
        final int[] otherOf = new int[MOST_PLACES];

        /** By JUNCTION and RING: twice the PATH, and one more for its second END. */
        private final int[] rings = new int[MOST_JUNCTIONS * MOST_ENDS];
        private final int[] placeOfSide = new int[MOST_PLACES];

        void clear() {
            junctions = 0;
            paths = 0;
            places = 0;
            outs = 0;
            marks = 0;
            shuts = 0;
            beats = 1;
        }

        boolean hasJunction(int junction) {
            return junction >= 0 && junction < junctions;
        }

        boolean hasPath(int path) {
            return path >= 0 && path < paths;
        }

        boolean hasPlace(int place) {
            return place >= 0 && place < places;
        }

        int placeOf(int junction, int end) {
            if (!hasJunction(junction) || end < 0 || end >= endsOf[junction]) {
                return NONE;
            }
            return firstPlaceOf[junction] + end;
        }

        int addJunction(boolean out) {
            if (junctions >= MOST_JUNCTIONS) {
                return NONE;
            }
            int added = junctions;
            junctions++;
            outs = withBit(outs, added, out);
            endsOf[added] = 0;
            firstPlaceOf[added] = places;
            return added;
        }

        int addPath(int a, int b) {
            if (!hasJunction(a) || !hasJunction(b) || paths >= MOST_PATHS) {
                return NONE;
            }
            int more = a == b ? 2 : 1;
            if (endsOf[a] + more > MOST_ENDS || endsOf[b] + more > MOST_ENDS) {
                return NONE;
            }
            int added = paths;
            paths++;
            gates[added] = ALWAYS_OPEN;
            addEnd(a, 2 * added);
            addEnd(b, 2 * added + 1);
            numberPlaces();
            return added;
        }

        private void addEnd(int junction, int side) {
            rings[junction * MOST_ENDS + endsOf[junction]] = side;
            endsOf[junction]++;
        }

        private void numberPlaces() {
            places = 0;
            for (int junction = 0; junction < junctions; junction++) {
                firstPlaceOf[junction] = places;
                for (int end = 0; end < endsOf[junction]; end++) {
                    int side = rings[junction * MOST_ENDS + end];
                    junctionAt[places] = junction;
                    endAt[places] = end;
                    pathAt[places] = side / 2;
                    placeOfSide[side] = places;
                    places++;
                }
            }
            for (int side = 0; side < places; side++) {
                otherOf[placeOfSide[side]] = placeOfSide[side ^ 1];
            }
        }

        int endsAt(int place) {
            return endsOf[junctionAt[place]];
        }

        /** Where one comes from a PLACE by a TURN, whatever is open. */
        int beyond(int place, int turn) {
            int ends = endsAt(place);
            if (ends < 1) {
                return place;
            }
            return otherOf[firstPlaceOf[junctionAt[place]] + (endAt[place] + turn) % ends];
        }

        int placesWithEnds(int ends) {
            int bits = 0;
            for (int place = 0; place < places; place++) {
                if (endsAt(place) == ends) {
                    bits = withBit(bits, place, true);
                }
            }
            return bits;
        }

        int placesOfPaths(int pathBits) {
            int bits = 0;
            for (int place = 0; place < places; place++) {
                if (hasBit(pathBits, pathAt[place])) {
                    bits = withBit(bits, place, true);
                }
            }
            return bits;
        }

        /** The PLACES whose PATH is open at a BEAT of the PERIOD. */
        int placesOpenAt(int beat) {
            int open = 0;
            for (int path = 0; path < paths; path++) {
                if (hasBit(gates[path], beat)) {
                    open = withBit(open, path, true);
                }
            }
            return placesOfPaths(open & ~shuts);
        }
    }

    /** Walks by RULES, and keeps what was at each BEAT of the latest WALK. */
    private static final class Walker {
        static final int LAST_BEAT = 1500;

        /** Of each BEAT, from the lowest bit: 3 of the PERIOD's BEAT, 8 of MARKS, 2 of STATE, then the PLACE. */
        final int[] history = new int[LAST_BEAT + 1];
        int last = 0;

        private final Garden garden;
        private final int[] openAt = new int[Garden.MOST_BEATS];
        private Rules rules;

        Walker(Garden garden, Rules rules) {
            this.garden = garden;
            this.rules = rules;
        }

        /** To be called ahead of WALKS, when RULES or GARDEN may have changed. */
        void prepare(Rules by) {
            rules = by;
            for (int beat = 0; beat < garden.beats; beat++) {
                openAt[beat] = garden.placesOpenAt(beat);
            }
        }

        /**
         * Walks until he is out, is seen where he was, or the last BEAT is there. To see it one BEAT is remembered, a
         * later one each time as many BEATS again have gone: cheap, if not always at the first BEAT that comes again.
         */
        boolean comesOut(int start, int marksLaid, int placesClosed) {
            int place = start;
            int state = rules.firstState;
            int marks = marksLaid;
            int beat = 0;
            int remembered = NONE;
            int toRemember = 0;
            for (last = 0; last <= LAST_BEAT; last++) {
                int now = place << 13 | state << 11 | marks << 3 | beat;
                history[last] = now;
                int junction = garden.junctionAt[place];
                if (hasBit(garden.outs, junction)) {
                    return true;
                }
                if (now == remembered || last == LAST_BEAT) {
                    return false;
                }
                if (last == toRemember) {
                    remembered = now;
                    toRemember = 2 * last + 1;
                }
                int act = rules.actOf(state, hasBit(marks, junction));
                marks = rules.marksAfter(act, marks, junction);
                place = placeBehind(place, rules.number[act], openAt[beat] & ~placesClosed);
                state = rules.next[act];
                beat = beat + 1 < garden.beats ? beat + 1 : 0;
            }
            return false;
        }

        private int placeBehind(int place, int number, int open) {
            int junction = garden.junctionAt[place];
            int first = garden.firstPlaceOf[junction];
            int ends = garden.endsOf[junction];
            int ring = open >>> first & (1 << ends) - 1;
            int openEnds = Integer.bitCount(ring);
            if (openEnds == 0) {
                return place;
            }
            int end = garden.endAt[place];
            if (number == 0 && hasBit(ring, end)) {
                return garden.otherOf[place];
            }
            int left = number == 0 ? 1 : (number - 1) % openEnds + 1;
            for (int step = 0; step < ends && left > 0; step++) {
                end = end + 1 < ends ? end + 1 : 0;
                left -= ring >>> end & 1;
            }
            return garden.otherOf[first + end];
        }

        /** If anything comes again in a WALK, then what was at its last BEAT was there a LAP ahead of it. */
        int lap() {
            for (int beat = last - 1; beat >= 0; beat--) {
                if (history[beat] == history[last]) {
                    return last - beat;
                }
            }
            return NONE;
        }

        int lead(int lap) {
            for (int beat = 0; beat + lap <= last; beat++) {
                if (history[beat] == history[beat + lap]) {
                    return beat;
                }
            }
            return NONE;
        }
    }

    /** What walked() tells of the latest WALK, by its what. */
    private static final class Report {
        static final int ROWS = 6;

        static final int OUT = 0;
        static final int ROUND = 1;
        static final int SPENT = 2;

        final int[] rows = {NONE, NONE, NONE, NONE, NONE, NONE};

        int take(Walker walker, boolean out) {
            int lap = out ? NONE : walker.lap();
            int lead = lap == NONE ? NONE : walker.lead(lap);
            // At LEAD all was as it is at LEAD and LAP together.
            int beat = lead == NONE ? walker.last : lead;
            int then = walker.history[beat];
            rows[0] = out ? beat : NONE;
            rows[1] = lead;
            rows[2] = lap;
            rows[3] = then >>> 13;
            rows[4] = then >>> 11 & 3;
            rows[5] = Integer.bitCount(then >>> 3 & 255);
            if (out) {
                return OUT;
            }
            return lap == NONE ? SPENT : ROUND;
        }
    }

    /** Seeks what is to MARK, or to SHUT, so that nobody is LOST. */
    private static final class Helper {
        final int[] kept = new int[2];
        int keptCount = 0;

        private final Garden garden;
        private final Walker walker;
        private int lostLately = 0;

        Helper(Garden garden, Walker walker) {
            this.garden = garden;
            this.walker = walker;
        }

        int seek(int what) {
            lostLately = 0;
            if (saves(what, 0)) {
                return keep(0, NONE, NONE);
            }
            int all = what == TO_MARK ? garden.junctions : garden.paths;
            int taken = what == TO_MARK ? garden.marks : garden.shuts;
            for (int a = 0; a < all; a++) {
                if (!hasBit(taken, a) && saves(what, 1 << a)) {
                    return keep(1, a, NONE);
                }
            }
            for (int a = 0; a < all; a++) {
                for (int b = a + 1; b < all; b++) {
                    if (!hasBit(taken, a) && !hasBit(taken, b) && saves(what, 1 << a | 1 << b)) {
                        return keep(2, a, b);
                    }
                }
            }
            return NONE;
        }

        private int keep(int many, int first, int second) {
            keptCount = many;
            kept[0] = first;
            kept[1] = second;
            return many;
        }

        private boolean saves(int what, int set) {
            if (what == TO_MARK) {
                return nobodyIsLost(garden.marks | set, 0);
            }
            return nobodyIsLost(garden.marks, garden.placesOfPaths(set));
        }

        /** Begins with who was lost with the set ahead: he mostly is with this one, too. */
        private boolean nobodyIsLost(int marks, int placesClosed) {
            int place = lostLately;
            for (int i = 0; i < garden.places; i++) {
                if (!walker.comesOut(place, marks, placesClosed)) {
                    lostLately = place;
                    return false;
                }
                place = place + 1 < garden.places ? place + 1 : 0;
            }
            return true;
        }
    }

    /** A TALE and where one can be behind it. */
    private static final class Tale {
        static final int MOST_TURNS = 8;

        int here = 0;
        int turns = NONE;

        private final Garden garden;

        Tale(Garden garden) {
            this.garden = garden;
        }

        void forget() {
            turns = NONE;
        }

        boolean canGoOn() {
            return turns != NONE && turns < MOST_TURNS;
        }

        void begin(int ends) {
            turns = 0;
            here = garden.placesWithEnds(ends);
        }

        void goOn(int turn, int ends) {
            int there = 0;
            for (int place = 0; place < garden.places; place++) {
                if (hasBit(here, place)) {
                    there = withBit(there, garden.beyond(place, turn), true);
                }
            }
            turns++;
            here = there & garden.placesWithEnds(ends);
        }
    }

    /**
     * Seeks the shortest TALE that tells all PLACES apart. By a TURN no two PLACES lead to the same one, so what is seen
     * tells where one is behind a TALE just if it tells where one began.
     */
    private static final class Homer {
        static final int MOST_TURNS = 5;
        static final int TURNS_TO_TRY = 6;
        static final int MOST_TALES = 7776;
        static final int WIDTH = Garden.MOST_PLACES;

        final int[] kept = new int[MOST_TURNS];
        int keptCount = 0;

        private final Garden garden;
        private int turnsToTry = 1;
        private final int[] beyond = new int[TURNS_TO_TRY * WIDTH];
        private final int[] turns = new int[MOST_TURNS];

        /** By how many TURNS a TALE has, and by PLACE: the PLACES that no such TALE tells from it, itself too. */
        private final int[] twins = new int[(MOST_TURNS + 1) * WIDTH];

        /** By how many TURNS are made, and by PLACE where one began: where one is; which beginnings look the same. */
        private final int[] at = new int[(MOST_TURNS + 1) * WIDTH];
        private final int[] alike = new int[(MOST_TURNS + 1) * WIDTH];
        private final int[] unsure = new int[MOST_TURNS + 1];
        private final int[] seen = new int[Garden.MOST_ENDS + 1];

        Homer(Garden garden) {
            this.garden = garden;
        }

        int seek() {
            chooseTurns();
            int least = leastTurns();
            if (least == NONE) {
                return NONE;
            }
            begin();
            for (int length = least; length <= MOST_TURNS; length++) {
                if (tellsWith(length)) {
                    System.arraycopy(turns, 0, kept, 0, length);
                    keptCount = length;
                    return length;
                }
            }
            return NONE;
        }

        /** If each JUNCTION's number of ENDS divides k, then TURNS from k on lead where lower ones do. */
        private void chooseTurns() {
            turnsToTry = 1;
            while (turnsToTry < TURNS_TO_TRY && !allEndsDivide(turnsToTry)) {
                turnsToTry++;
            }
            for (int turn = 0; turn < turnsToTry; turn++) {
                for (int place = 0; place < garden.places; place++) {
                    beyond[turn * WIDTH + place] = garden.beyond(place, turn);
                }
            }
        }

        private boolean allEndsDivide(int number) {
            for (int junction = 0; junction < garden.junctions; junction++) {
                int ends = garden.endsOf[junction];
                if (ends > 0 && number % ends != 0) {
                    return false;
                }
            }
            return true;
        }

        /** With fewer TURNS some PLACE has a twin; NONE if that is so with the most, too. */
        private int leastTurns() {
            for (int place = 0; place < garden.places; place++) {
                twins[place] = garden.placesWithEnds(garden.endsAt(place));
            }
            for (int made = 0; made < MOST_TURNS; made++) {
                partTwins(made * WIDTH);
            }
            for (int made = 0; made <= MOST_TURNS; made++) {
                if (!hasTwins(made * WIDTH)) {
                    return made;
                }
            }
            return NONE;
        }

        private boolean hasTwins(int row) {
            for (int place = 0; place < garden.places; place++) {
                if (twins[row + place] != 1 << place) {
                    return true;
                }
            }
            return false;
        }

        private void partTwins(int row) {
            for (int place = 0; place < garden.places; place++) {
                int same = twins[row + place];
                for (int other = 0; other < garden.places; other++) {
                    if (other != place && hasBit(same, other) && anyTurnParts(place, other, row)) {
                        same = withBit(same, other, false);
                    }
                }
                twins[row + WIDTH + place] = same;
            }
        }

        private boolean anyTurnParts(int place, int other, int row) {
            for (int turn = 0; turn < turnsToTry; turn++) {
                int to = turn * WIDTH;
                if (!hasBit(twins[row + beyond[to + place]], beyond[to + other])) {
                    return true;
                }
            }
            return false;
        }

        private void begin() {
            unsure[0] = 0;
            for (int place = 0; place < garden.places; place++) {
                at[place] = place;
                alike[place] = twins[place];
                unsure[0] = withBit(unsure[0], place, twins[place] != 1 << place);
            }
        }

        /**
         * Goes through the TALES of a length in their order; what a TALE shares with the one ahead isn't made anew, and
         * where some beginnings can't be told apart any more, all that begin so are left out.
         */
        private boolean tellsWith(int length) {
            for (int i = 0; i < length; i++) {
                turns[i] = 0;
            }
            int made = 0;
            for (int tales = 0; tales < MOST_TALES && made != NONE; tales++) {
                boolean hope = true;
                while (made < length && hope) {
                    makeTurn(made);
                    made++;
                    hope = !isHopeless(made, length - made);
                }
                if (hope) {
                    return true;
                }
                made = nextTale(made);
            }
            return false;
        }

        /** Whether two beginnings that look the same lead to PLACES that no TURNS that are left tell apart. */
        private boolean isHopeless(int made, int left) {
            int row = made * WIDTH;
            for (int start = 0; start < garden.places; start++) {
                if (hasBit(unsure[made], start) && meetsTwin(row, start, twins[left * WIDTH + at[row + start]])) {
                    return true;
                }
            }
            return false;
        }

        private boolean meetsTwin(int row, int start, int twinsThere) {
            for (int other = start + 1; other < garden.places; other++) {
                if (hasBit(alike[row + start], other) && hasBit(twinsThere, at[row + other])) {
                    return true;
                }
            }
            return false;
        }

        /** The next TALE that differs in its first TURNS: which is the first other one; NONE behind the last TALE. */
        private int nextTale(int firstTurns) {
            for (int i = firstTurns - 1; i >= 0; i--) {
                if (turns[i] + 1 < turnsToTry) {
                    turns[i]++;
                    return i;
                }
                turns[i] = 0;
            }
            return NONE;
        }

        private void makeTurn(int made) {
            int from = made * WIDTH;
            int to = from + WIDTH;
            int row = turns[made] * WIDTH;
            for (int ends = 0; ends <= Garden.MOST_ENDS; ends++) {
                seen[ends] = 0;
            }
            for (int start = 0; start < garden.places; start++) {
                if (hasBit(unsure[made], start)) {
                    int place = beyond[row + at[from + start]];
                    at[to + start] = place;
                    seen[garden.endsAt(place)] |= 1 << start;
                }
            }
            unsure[made + 1] = 0;
            for (int start = 0; start < garden.places; start++) {
                if (hasBit(unsure[made], start)) {
                    int same = alike[from + start] & seen[garden.endsAt(at[to + start])];
                    alike[to + start] = same;
                    unsure[made + 1] = withBit(unsure[made + 1], start, same != 1 << start);
                }
            }
        }
    }
}
