public final class SyllableMaker {
    public static final int NONE = -1;

    private static final int NO_SYLLABLE = -100;
    private static final int CANNOT = -2;
    private static final int FIRST_LEARNT = 100;
    private static final int MOST_SPOKEN_BYTES = 200;
    private static final int MOST_WORDS = 8;
    private static final int MOST_LEARNT = 20;
    private static final int MOST_COST = 999;
    private static final int MOST_PARTS = 1000000;
    private static final int PLAIN = 0;
    private static final int CHEAPEST = 1;
    private static final int JOINED = 2;

    private final Tape tape = new Tape();
    private final Reader reader = new Reader(tape);
    private final Cut cutter = new Cut();
    private final Speech spoken = new Speech(cutter);
    private final Tally counts = new Tally(cutter);
    private final Mender mender = new Mender(cutter);
    private final Acts acts = new Acts();
    private Law rules = new Law();
    private Law spare = new Law();

    public SyllableMaker() {
    }

    public int feed(int a, int b, int c, int d, int e) {
        if (!tape.hasRoomFor(20)) {
            return NONE;
        }
        tape.put(a);
        tape.put(b);
        tape.put(c);
        tape.put(d);
        tape.put(e);
        return tape.size;
    }

    public int end(int n) {
        if (n < 0 || n > tape.size) {
            return NONE;
        }
        tape.size = n;
        return n;
    }

    public int law() {
        boolean right = reader.readLaw(spare);
        tape.size = 0;
        if (!right) {
            return NONE;
        }
        // The spare one is read into, so that a FAULT leaves what stands.
        Law read = spare;
        spare = rules;
        rules = read;
        spoken.words.clear();
        acts.clear();
        return rules.sounds.count;
    }

    public int say() {
        if (tape.size > MOST_SPOKEN_BYTES) {
            return CANNOT;
        }
        boolean right = reader.readSpeech(spoken.spare, rules);
        tape.size = 0;
        if (!right) {
            return NONE;
        }
        spoken.takeSpare();
        return spoken.words.count;
    }

    public int fault(int what) {
        switch (what) {
            case 0: return tape.fault;
            case 1: return tape.faultPlace;
            default: return NONE;
        }
    }

    public int sound(int i, int what) {
        Sounds sounds = rules.sounds;
        if (!sounds.has(i)) {
            return NONE;
        }
        switch (what) {
            case 0: return sounds.letterOf(i);
            case 1: return sounds.openOf(i);
            case 2: return sounds.isPeak(i) ? 1 : 0;
            default: return NONE;
        }
    }

    public int opening(int a, int b, int c, int d) {
        long key = Row.EMPTY;
        for (int place = 0; place < 4; place++) {
            int sound = place == 0 ? a : place == 1 ? b : place == 2 ? c : d;
            if (sound == NONE) {
                break;
            }
            if (!rules.sounds.has(sound) || rules.sounds.isPeak(sound)) {
                return NONE;
            }
            key = Row.longer(key, sound);
        }
        return rules.openingKind(key);
    }

    public int word(int word, int what) {
        Row row = rowOf(word);
        if (row == null || what < 0 || what > 5) {
            return NONE;
        }
        if (what == 0) {
            return row.size;
        }
        cutter.start(rules, row);
        if (what == 1) {
            return cutter.count;
        }
        if (what == 5) {
            return cutter.ways();
        }
        if (cutter.count == 0) {
            return NONE;
        }
        if (what == 4) {
            return cutter.cutCheapest();
        }
        cutter.cutPlain();
        return what == 2 ? cutter.stressed() : cutter.total();
    }

    public int at(int word, int i) {
        Row row = rowOf(word);
        return row == null ? NONE : row.soundAt(i);
    }

    public int syllable(int word, int cut, int k, int what) {
        Row row = rowOf(word);
        if (row == null || cut < PLAIN || cut > JOINED) {
            return NO_SYLLABLE;
        }
        if (cut == JOINED) {
            if (word >= FIRST_LEARNT) {
                return NO_SYLLABLE;
            }
            spoken.cutJoined(rules, word);
        } else {
            cutter.start(rules, row);
            if (cut == CHEAPEST) {
                cutter.cutCheapest();
            } else {
                cutter.cutPlain();
            }
        }
        return cutter.has(k) ? tellSyllable(k, what) : NO_SYLLABLE;
    }

    private int tellSyllable(int k, int what) {
        switch (what) {
            case 0: return cutter.begin(k);
            case 1: return cutter.openingSize(k);
            case 2: return cutter.heartSize(k);
            case 3: return cutter.closingSize(k);
            case 4: return cutter.weight(k);
            case 5: return cutter.isHeavy(k) ? 1 : 0;
            case 6: return cutter.costOf(k);
            default: return NO_SYLLABLE;
        }
    }

    public int judge(int word, long cut, int what) {
        Row row = rowOf(word);
        if (row == null || what < 0 || what > 2) {
            return CANNOT;
        }
        cutter.start(rules, row);
        if (!cutter.cutAsTold(cut)) {
            return CANNOT;
        }
        if (what == 1) {
            return cutter.firstNotLegal();
        }
        int total = cutter.total();
        return what == 0 ? total : cutter.countUpTo(total - 1);
    }

    public int within(int word, int c) {
        Row row = rowOf(word);
        if (row == null) {
            return NONE;
        }
        cutter.start(rules, row);
        return cutter.countUpTo(c);
    }

    public int rhyme(int a, int b) {
        Row first = spoken.words.rowAt(a);
        Row second = spoken.words.rowAt(b);
        if (first == null || second == null) {
            return NONE;
        }
        long end = spoken.stressedEnd(rules, first);
        return end != 0 && end == spoken.stressedEnd(rules, second) ? 1 : 0;
    }

    public int mend(int word, int i) {
        Row row = rowOf(word);
        if (row == null) {
            return NONE;
        }
        int helpers = mender.seek(rules, row);
        if (helpers == CANNOT || i == NONE) {
            return helpers;
        }
        return i >= 0 && i < helpers ? mender.placeOf(i) : NONE;
    }

    public int far(int a, int b) {
        Row first = rowOf(a);
        Row second = rowOf(b);
        if (first == null || second == null) {
            return NONE;
        }
        return rules.sounds.distance(first, second);
    }

    public int nearest(int word) {
        Row row = rowOf(word);
        if (row == null) {
            return NONE;
        }
        int best = NONE;
        int least = 0;
        for (int i = 0; i < rules.learnt.count; i++) {
            Row other = rules.learnt.rowAt(i);
            if (other == null || FIRST_LEARNT + i == word) {
                continue;
            }
            int distance = rules.sounds.distance(row, other);
            if (best == NONE || distance < least) {
                best = FIRST_LEARNT + i;
                least = distance;
            }
        }
        return best;
    }

    public int parts(int word) {
        Row row = rowOf(word);
        return row == null ? NONE : Math.min(MOST_PARTS, rules.learnt.rowsThatMake(row));
    }

    public int hills(int word) {
        Row row = rowOf(word);
        return row == null ? NONE : rules.sounds.countHills(row);
    }

    public int joins(int k) {
        return spoken.words.rowAt(k) == null ? NONE : spoken.goingOver(rules, k);
    }

    public int speech(int what) {
        if (spoken.words.count == 0) {
            return NONE;
        }
        switch (what) {
            case 0: return spoken.heavyJoined(rules);
            case 1: return spoken.heavyPlain(rules);
            case 2: return spoken.changed(rules);
            default: return NONE;
        }
    }

    public int misfits(int n, int f) {
        if (n < 2 || n > 4 || f < 0 || f >= n || !spoken.hasSyllables()) {
            return NONE;
        }
        return spoken.countMisfits(rules, n, f);
    }

    public int beat(int what) {
        if (what < 0 || what > 2 || !spoken.hasSyllables()) {
            return NONE;
        }
        int bestN = 0;
        int bestF = 0;
        int fewest = NONE;
        for (int n = 2; n <= 4; n++) {
            for (int f = 0; f < n; f++) {
                int misfits = spoken.countMisfits(rules, n, f);
                if (fewest == NONE || misfits < fewest) {
                    bestN = n;
                    bestF = f;
                    fewest = misfits;
                }
            }
        }
        return what == 0 ? bestN : what == 1 ? bestF : fewest;
    }

    public int possible(int n) {
        if (n < 1 || n > 6) {
            return NONE;
        }
        int sum = 0;
        for (int heart = 1; heart <= 2; heart++) {
            for (int opening = 0; opening + heart <= n; opening++) {
                int closing = n - heart - opening;
                sum += rules.countOpenings(opening) * rules.countHearts(heart) * rules.countClosings(closing);
            }
        }
        return sum;
    }

    public int tally(int sort, int i, int what) {
        if (sort < 0 || sort >= Tally.SORTS) {
            return NONE;
        }
        counts.fill(rules);
        return i == NONE ? counts.unlike(sort) : counts.tell(sort, i, what);
    }

    public int made(int seed, int n, int i) {
        if (n < 1 || n > 4 || i < NONE) {
            return NONE;
        }
        counts.fill(rules);
        return counts.make(seed, n, i);
    }

    public int learn(int k) {
        Row row = spoken.words.rowAt(k);
        if (row == null || !rules.learnt.add(row)) {
            return NONE;
        }
        int place = rules.learnt.count - 1;
        acts.note(Acts.LEARN, place, 0, null);
        return FIRST_LEARNT + place;
    }

    public int forget(int word) {
        if (word < FIRST_LEARNT) {
            return NONE;
        }
        int place = word - FIRST_LEARNT;
        Row row = rules.learnt.rowAt(place);
        if (row == null) {
            return NONE;
        }
        acts.note(Acts.FORGET, place, 0, row);
        rules.learnt.takeOut(place);
        return rules.learnt.count;
    }

    public int cost(int which, int n) {
        int was = rules.costAt(which);
        if (was == NONE || n < 0 || n > MOST_COST || n == was) {
            return NONE;
        }
        acts.note(Acts.COST, which, was, null);
        rules.putCost(which, n);
        return was;
    }

    public int undo() {
        if (!acts.takeLatest()) {
            return NONE;
        }
        switch (acts.latestKind()) {
            case Acts.LEARN:
                rules.learnt.takeOut(acts.latestPlace());
                break;
            case Acts.FORGET:
                rules.learnt.putIn(acts.latestPlace(), acts.latestRow());
                break;
            default:
                rules.putCost(acts.latestPlace(), acts.latestCost());
                break;
        }
        return acts.count;
    }

    public int about(int what) {
        switch (what) {
            case 0: return rules.sounds.count;
            case 1: return rules.toldCount;
            case 2: return rules.glideCount;
            case 3: return rules.learnt.count;
            case 4: return spoken.words.count;
            case 5: return acts.count;
            case 6: return tape.size;
            case 7: return rules.countLearntOpenings();
            default: return what < 10 ? NONE : rules.costAt(what - 10);
        }
    }

    private Row rowOf(int word) {
        return word < FIRST_LEARNT ? spoken.words.rowAt(word) : rules.learnt.rowAt(word - FIRST_LEARNT);
    }

    /** The TAPE's bytes, and the TOKEN on it that is looked at. */
    private static final class Tape {
        static final int MOST_BYTES = 900;
        static final int END = 0;
        static final int ROW = 1;
        static final int NUMBER = 2;
        static final int SIGN = 3;
        static final int BAD = 4;

        private final byte[] bytes = new byte[MOST_BYTES];
        int size;
        int kind;
        int place;
        int length;
        int fault;
        int faultPlace = NONE;

        boolean hasRoomFor(int more) {
            return size + more <= bytes.length;
        }

        void put(int four) {
            for (int shift = 24; shift >= 0; shift -= 8) {
                if (size < bytes.length) {
                    bytes[size] = (byte) (four >>> shift);
                    size++;
                }
            }
        }

        void startReading() {
            fault = 0;
            faultPlace = NONE;
            place = 0;
            length = 0;
            advance();
        }

        void fail(int which) {
            if (fault == 0) {
                fault = which;
                faultPlace = place;
            }
        }

        /** The TOKEN here can't stand here. */
        void refuse() {
            fail(kind == BAD ? 1 : 2);
        }

        boolean goesOn() {
            return fault == 0 && kind != END;
        }

        void advance() {
            int next = place + length;
            while (next < size && isBlank(next)) {
                next++;
            }
            place = next;
            length = 0;
            kind = END;
            if (next >= size) {
                return;
            }
            int letters = countFrom(next, 'a', 'z');
            int digits = countFrom(next, '0', '9');
            length = Math.max(1, Math.max(letters, digits));
            if (letters > 0) {
                kind = letters <= Row.MOST ? ROW : BAD;
            } else if (digits > 0) {
                kind = digits <= 3 && countFrom(next + digits, 'a', 'z') == 0 ? NUMBER : BAD;
            } else {
                kind = letterAt(0) == ';' ? SIGN : BAD;
            }
        }

        private boolean isBlank(int where) {
            return where >= 0 && where < bytes.length && (bytes[where] == 32 || bytes[where] == 10);
        }

        /** How many bytes from there on are from the least to the most. */
        private int countFrom(int from, char least, char most) {
            int end = Math.min(size, bytes.length);
            int where = Math.max(0, from);
            while (where < end && bytes[where] >= least && bytes[where] <= most) {
                where++;
            }
            return where - from;
        }

        /** What the NUMBER here is. */
        int valueHere() {
            int value = 0;
            for (int i = 0; i < length; i++) {
                value = value * 10 + letterAt(i) - '0';
            }
            return value;
        }

        /** The i-th byte of the TOKEN here. */
        int letterAt(int i) {
            int where = place + i;
            return i >= 0 && i < length && where < size && where < bytes.length ? bytes[where] : 0;
        }

        boolean spells(String text) {
            if (kind != ROW || length != text.length()) {
                return false;
            }
            for (int i = 0; i < text.length(); i++) {
                if (letterAt(i) != text.charAt(i)) {
                    return false;
                }
            }
            return true;
        }
    }

    /** Reads the TAPE as a LAW, and as SPEECH. */
    private static final class Reader {
        private static final int SOUND = 0;
        private static final int OPEN = 1;
        private static final int GLIDE = 2;
        private static final int WORD = 3;
        private static final int COST = 4;
        private static final int RISE = 5;
        private static final int CLOSE = 6;
        private static final int WEIGH = 7;
        private static final int STRESS = 8;
        private static final int HELP = 9;
        private static final int MOVE = 10;
        private static final int LINES = 11;

        private static final int ANY = 0;
        private static final int NO_PEAKS = 1;
        private static final int PEAKS = 2;

        private final Tape tape;
        private final Row row = new Row();
        private final int[] lines = new int[LINES];
        private final boolean[] named = new boolean[Law.COSTS];
        private Law target;

        Reader(Tape tape) {
            this.tape = tape;
        }

        boolean readLaw(Law law) {
            target = law;
            target.clear();
            for (int i = 0; i < lines.length; i++) {
                lines[i] = 0;
            }
            for (int i = 0; i < named.length; i++) {
                named[i] = false;
            }
            tape.startReading();
            for (int i = 0; i < Tape.MOST_BYTES && tape.goesOn(); i++) {
                readLine();
            }
            return tape.fault == 0;
        }

        boolean readSpeech(Words words, Law law) {
            target = law;
            words.clear();
            tape.startReading();
            if (tape.kind == Tape.END) {
                tape.refuse();
            }
            for (int i = 0; i < Tape.MOST_BYTES && tape.goesOn(); i++) {
                if (readRow(ANY, 1, Row.MOST)) {
                    if (!words.add(row)) {
                        tape.fail(5);
                    }
                    tape.advance();
                }
            }
            return tape.fault == 0;
        }

        private void readLine() {
            int line = lineHere();
            if (line < 0 || line >= LINES) {
                tape.refuse();
                return;
            }
            if (lines[line] >= mostOf(line)) {
                tape.fail(line <= WORD ? 5 : 2);
                return;
            }
            lines[line]++;
            tape.advance();
            if (line <= WORD || line == HELP) {
                readRowLine(line);
            } else {
                readNumbersLine(line);
            }
            readSign();
        }

        private int lineHere() {
            if (tape.spells("sound")) { return SOUND; }
            if (tape.spells("open")) { return OPEN; }
            if (tape.spells("glide")) { return GLIDE; }
            if (tape.spells("word")) { return WORD; }
            if (tape.spells("cost")) { return COST; }
            if (tape.spells("rise")) { return RISE; }
            if (tape.spells("close")) { return CLOSE; }
            if (tape.spells("weigh")) { return WEIGH; }
            if (tape.spells("stress")) { return STRESS; }
            if (tape.spells("help")) { return HELP; }
            if (tape.spells("move")) { return MOVE; }
            return NONE;
        }

        private int mostOf(int line) {
            switch (line) {
                case SOUND: return Sounds.MOST;
                case OPEN: return Law.MOST_TOLD;
                case GLIDE: return Law.MOST_GLIDES;
                case WORD: return MOST_LEARNT;
                // A cost's NAME, not its line, is what may be told once alone.
                case COST: return Tape.MOST_BYTES;
                default: return 1;
            }
        }

        private void readRowLine(int line) {
            switch (line) {
                case SOUND:
                    readSound();
                    break;
                case OPEN:
                    readOpen();
                    break;
                case GLIDE:
                    readGlide();
                    break;
                case HELP:
                    if (readRow(PEAKS, 1, 1)) {
                        target.help = row.soundAt(0);
                        tape.advance();
                    }
                    break;
                default:
                    if (readRow(ANY, 1, Row.MOST)) {
                        target.learnt.add(row);
                        tape.advance();
                    }
                    break;
            }
        }

        private void readNumbersLine(int line) {
            switch (line) {
                case COST:
                    readCost();
                    break;
                case RISE:
                    target.rise = readNumber(0, 9);
                    break;
                case CLOSE:
                    target.closeMost = readNumber(0, 4);
                    target.closeFall = readNumber(0, 9);
                    break;
                case WEIGH:
                    target.shortWeight = readNumber(0, 9);
                    target.longWeight = readNumber(0, 9);
                    target.closingWeight = readNumber(0, 9);
                    target.heavyFrom = readNumber(1, 99);
                    break;
                case STRESS:
                    target.stressBack = readNumber(1, 4);
                    target.stressWindow = tape.kind == Tape.NUMBER ? readNumber(0, 9) : 0;
                    break;
                default:
                    target.move = readNumber(0, 4);
                    break;
            }
        }

        private void readSound() {
            if (tape.kind != Tape.ROW) {
                tape.refuse();
                return;
            }
            int letter = tape.letterAt(0);
            if (tape.length != 1) {
                tape.fail(4);
            } else if (target.sounds.numberOf(letter) != NONE) {
                tape.fail(3);
            }
            tape.advance();
            int open = readNumber(0, 9);
            boolean peak = tape.spells("peak");
            if (peak) {
                tape.advance();
            }
            target.sounds.add(letter, open, peak);
        }

        private void readOpen() {
            if (!readRow(NO_PEAKS, 2, 4)) {
                return;
            }
            long key = row.key(0, row.size);
            if (target.isTold(key)) {
                tape.fail(4);
            }
            target.addTold(key);
            tape.advance();
        }

        private void readGlide() {
            if (!readRow(PEAKS, 2, 2)) {
                return;
            }
            int first = row.soundAt(0);
            int second = row.soundAt(1);
            if (first == second || target.isGlide(first, second)) {
                tape.fail(4);
            }
            target.addGlide(first, second);
            tape.advance();
        }

        private void readCost() {
            int which = costHere();
            if (which < 0 || which >= named.length || named[which]) {
                tape.refuse();
                return;
            }
            named[which] = true;
            tape.advance();
            target.putCost(which, readNumber(0, MOST_COST));
        }

        private int costHere() {
            if (tape.spells("bare")) { return Law.BARE; }
            if (tape.spells("shut")) { return Law.SHUT; }
            if (tape.spells("rough")) { return Law.ROUGH; }
            if (tape.spells("wild")) { return Law.WILD; }
            if (tape.spells("burst")) { return Law.BURST; }
            if (tape.spells("clash")) { return Law.CLASH; }
            return NONE;
        }

        /** Leaves the ROW's TOKEN here, so that a later FAULT of it has its place. */
        private boolean readRow(int peaks, int least, int most) {
            if (tape.kind != Tape.ROW) {
                tape.refuse();
                return false;
            }
            row.clear();
            for (int i = 0; i < tape.length; i++) {
                int sound = target.sounds.numberOf(tape.letterAt(i));
                boolean peak = target.sounds.isPeak(sound);
                if (sound == NONE || peaks == NO_PEAKS && peak || peaks == PEAKS && !peak) {
                    tape.fail(3);
                    return false;
                }
                row.add(sound, peak);
            }
            if (row.size < least || row.size > most) {
                tape.fail(4);
                return false;
            }
            return true;
        }

        private int readNumber(int least, int most) {
            if (tape.kind != Tape.NUMBER) {
                tape.refuse();
                return least;
            }
            int number = tape.valueHere();
            if (number < least || number > most) {
                tape.fail(4);
                return least;
            }
            tape.advance();
            return number;
        }

        private void readSign() {
            if (tape.kind != Tape.SIGN) {
                tape.refuse();
                return;
            }
            tape.advance();
        }
    }

    /** A row of SOUNDS; as a key: 1, and the SOUNDS behind it as digits of base 16. */
    private static final class Row {
        static final int MOST = 12;
        static final long EMPTY = 1;

        private final int[] sounds = new int[MOST];
        int size;
        /** The key of all SOUNDS ahead of the first PEAK, 0 without PEAKS. */
        long lead;

        void clear() {
            size = 0;
            lead = 0;
        }

        void add(int sound, boolean peak) {
            if (size >= sounds.length) {
                return;
            }
            if (peak && lead == 0) {
                lead = key(0, size);
            }
            sounds[size] = sound;
            size++;
        }

        void copy(Row other) {
            for (int i = 0; i < sounds.length; i++) {
                sounds[i] = other.sounds[i];
            }
            size = other.size;
            lead = other.lead;
        }

        int soundAt(int i) {
            return i >= 0 && i < size && i < sounds.length ? sounds[i] : NONE;
        }

        long key(int from, int count) {
            long key = EMPTY;
            int end = Math.min(size, from + count);
            for (int i = Math.max(0, from); i < end && i < sounds.length; i++) {
                key = key << 4 | sounds[i];
            }
            return key;
        }

        static long longer(long key, int sound) {
            return key << 4 | (sound & 15);
        }

        static int sizeOf(long key) {
            int size = 0;
            for (long rest = key >>> 4; rest != 0; rest >>>= 4) {
                size++;
            }
            return size;
        }

        static int soundIn(long key, int i) {
            int size = sizeOf(key);
            return i >= 0 && i < size ? (int) (key >>> 4 * (size - 1 - i)) & 15 : NONE;
        }
    }

    /** A list of WORDS, of so many at most. */
    private static final class Words {
        private final Row[] rows;
        private final int[] ways = new int[Row.MOST + 1];
        int count;

        Words(int most) {
            rows = new Row[most];
            for (int i = 0; i < rows.length; i++) {
                rows[i] = new Row();
            }
        }

        void clear() {
            count = 0;
        }

        Row rowAt(int i) {
            return i >= 0 && i < count && i < rows.length ? rows[i] : null;
        }

        boolean add(Row row) {
            return putIn(count, row);
        }

        boolean putIn(int place, Row row) {
            if (row == null || count >= rows.length || place < 0 || place > count) {
                return false;
            }
            Row free = rows[count];
            for (int i = count; i > place; i--) {
                rows[i] = rows[i - 1];
            }
            free.copy(row);
            rows[place] = free;
            count++;
            return true;
        }

        void takeOut(int place) {
            if (place < 0 || place >= count || count > rows.length) {
                return;
            }
            Row gone = rows[place];
            for (int i = place; i < count - 1; i++) {
                rows[i] = rows[i + 1];
            }
            count--;
            rows[count] = gone;
        }

        boolean hasLead(long key) {
            for (int i = 0; i < count && i < rows.length; i++) {
                if (rows[i].lead == key) {
                    return true;
                }
            }
            return false;
        }

        /** How many rows of these WORDS, alike ones as one, have just the SOUNDS of that row. */
        int rowsThatMake(Row row) {
            ways[0] = 1;
            for (int end = 1; end <= row.size && end < ways.length; end++) {
                ways[end] = 0;
                for (int start = 0; start < end; start++) {
                    if (ways[start] > 0 && hasWord(row.key(start, end - start))) {
                        ways[end] += ways[start];
                    }
                }
            }
            return row.size < ways.length ? ways[row.size] : 0;
        }

        private boolean hasWord(long key) {
            int size = Row.sizeOf(key);
            for (int i = 0; i < count && i < rows.length; i++) {
                if (rows[i].size == size && rows[i].key(0, size) == key) {
                    return true;
                }
            }
            return false;
        }
    }

    /** The SOUNDS, and what follows from how OPEN they are. */
    private static final class Sounds {
        static final int MOST = 16;
        private static final int PUT_IN = 5;
        private static final int PEAK_FOR_NONE = 3;

        private final int[] letters = new int[MOST];
        private final int[] opens = new int[MOST];
        private final boolean[] peaks = new boolean[MOST];
        private final int[] sums = new int[Row.MOST + 1];
        private final int[] chains = new int[MOST];
        private final int[] longerChains = new int[MOST];
        int count;

        void clear() {
            count = 0;
        }

        void add(int letter, int open, boolean peak) {
            if (count < MOST) {
                letters[count] = letter;
                opens[count] = open;
                peaks[count] = peak;
                count++;
            }
        }

        boolean has(int i) {
            return i >= 0 && i < count && i < MOST;
        }

        int numberOf(int letter) {
            for (int i = 0; i < count && i < MOST; i++) {
                if (letters[i] == letter) {
                    return i;
                }
            }
            return NONE;
        }

        int letterOf(int i) {
            return has(i) ? letters[i] : NONE;
        }

        int openOf(int i) {
            return i >= 0 && i < count && i < MOST ? opens[i] : NONE;
        }

        boolean isPeak(int i) {
            return i >= 0 && i < count && i < MOST && peaks[i];
        }

        int countPeaks() {
            int number = 0;
            for (int i = 0; i < count; i++) {
                number += isPeak(i) ? 1 : 0;
            }
            return number;
        }

        /** How FAR, line by line of the sums for ever longer beginnings of the first. */
        int distance(Row first, Row second) {
            int width = Math.min(second.size, Row.MOST);
            for (int j = 0; j <= width; j++) {
                sums[j] = j * PUT_IN;
            }
            for (int i = 0; i < first.size; i++) {
                int corner = sums[0];
                sums[0] = (i + 1) * PUT_IN;
                for (int j = 1; j <= width; j++) {
                    int changed = corner + change(first.soundAt(i), second.soundAt(j - 1));
                    corner = sums[j];
                    sums[j] = Math.min(changed, Math.min(sums[j], sums[j - 1]) + PUT_IN);
                }
            }
            return sums[width];
        }

        private int change(int a, int b) {
            if (a == b) {
                return 0;
            }
            int sum = Math.abs(openOf(a) - openOf(b)) + (isPeak(a) != isPeak(b) ? PEAK_FOR_NONE : 0);
            return Math.max(1, sum);
        }

        int countHills(Row row) {
            int number = 0;
            boolean rose = true;
            for (int i = 0; i < row.size; i++) {
                int here = openOf(row.soundAt(i));
                int behind = i + 1 < row.size ? openOf(row.soundAt(i + 1)) : NONE;
                if (behind < here && rose) {
                    number++;
                }
                if (behind != here) {
                    rose = behind > here;
                }
            }
            return number;
        }

        /** Whether each SOUND of a row is that much more OPEN (or less) at least than the one ahead. */
        boolean climbs(long key, int step, boolean upwards) {
            // Below 256 a key has not two SOUNDS.
            for (long rest = key; rest >= 256; rest >>>= 4) {
                int more = openOf((int) rest & 15) - openOf((int) (rest >>> 4) & 15);
                if ((upwards ? more : -more) < step) {
                    return false;
                }
            }
            return true;
        }

        /**
         * How many rows of so many SOUNDS, no PEAKS, have each that much more OPEN at least than the one ahead.
         * As many have each that much less OPEN: the same rows, read from behind.
         */
        int countChains(int size, int step) {
            for (int i = 0; i < MOST; i++) {
                chains[i] = i < count && !peaks[i] ? 1 : 0;
            }
            for (int length = 2; length <= size; length++) {
                for (int i = 0; i < MOST; i++) {
                    longerChains[i] = i < count && !peaks[i] ? chainsBefore(i, step) : 0;
                }
                System.arraycopy(longerChains, 0, chains, 0, MOST);
            }
            int sum = 0;
            for (int i = 0; i < MOST; i++) {
                sum += chains[i];
            }
            return sum;
        }

        private int chainsBefore(int last, int step) {
            int sum = 0;
            for (int i = 0; i < count && i < MOST; i++) {
                if (openOf(last) - openOf(i) >= step) {
                    sum += chains[i];
                }
            }
            return sum;
        }
    }

    /** All that a LAW tells, and the words that are learnt. */
    private static final class Law {
        static final int BARE = 0;
        static final int SHUT = 1;
        static final int ROUGH = 2;
        static final int WILD = 3;
        static final int BURST = 4;
        static final int CLASH = 5;
        static final int COSTS = 6;
        static final int MOST_TOLD = 12;
        static final int MOST_GLIDES = 6;
        static final int MOST_OPENING = 4;
        static final int NOT_LEGAL = 0;
        static final int RISING = 4;

        final Sounds sounds = new Sounds();
        final Words learnt = new Words(MOST_LEARNT);
        private final long[] told = new long[MOST_TOLD];
        private final int[] glides = new int[MOST_GLIDES];
        private final int[] costs = new int[COSTS];
        int toldCount;
        int glideCount;
        int rise;
        int closeMost;
        int closeFall;
        int shortWeight;
        int longWeight;
        int closingWeight;
        int heavyFrom;
        int stressBack;
        int stressWindow;
        int help;
        int move;

        Law() {
            clear();
        }

        void clear() {
            sounds.clear();
            learnt.clear();
            toldCount = 0;
            glideCount = 0;
            for (int i = 0; i < COSTS; i++) {
                costs[i] = 0;
            }
            rise = NONE;
            closeMost = 4;
            closeFall = 0;
            shortWeight = 1;
            longWeight = 2;
            closingWeight = 1;
            heavyFrom = 2;
            stressBack = 2;
            stressWindow = 0;
            help = NONE;
            move = 1;
        }

        int costAt(int which) {
            return which >= 0 && which < COSTS ? costs[which] : NONE;
        }

        void putCost(int which, int n) {
            if (which >= 0 && which < COSTS) {
                costs[which] = n;
            }
        }

        void addTold(long key) {
            if (toldCount < MOST_TOLD) {
                told[toldCount] = key;
                toldCount++;
            }
        }

        boolean isTold(long key) {
            for (int i = 0; i < toldCount && i < MOST_TOLD; i++) {
                if (told[i] == key) {
                    return true;
                }
            }
            return false;
        }

        void addGlide(int first, int second) {
            if (glideCount < MOST_GLIDES) {
                glides[glideCount] = first * Sounds.MOST + second;
                glideCount++;
            }
        }

        boolean isGlide(int first, int second) {
            for (int i = 0; i < glideCount && i < MOST_GLIDES; i++) {
                if (glides[i] == first * Sounds.MOST + second) {
                    return true;
                }
            }
            return false;
        }

        boolean isLongHeart(int first, int second) {
            return sounds.isPeak(first) && sounds.isPeak(second) && (first == second || isGlide(first, second));
        }

        /** What opening() tells: 0 if it is not LEGAL, else why it is. */
        int openingKind(long key) {
            int size = Row.sizeOf(key);
            if (size <= 1) {
                return 1;
            }
            if (size > MOST_OPENING) {
                return NOT_LEGAL;
            }
            if (isTold(key)) {
                return 2;
            }
            if (learnt.hasLead(key)) {
                return 3;
            }
            return isRising(key) ? RISING : NOT_LEGAL;
        }

        private boolean isRising(long key) {
            return rise != NONE && sounds.climbs(key, rise, true);
        }

        boolean isLegalClosing(long key) {
            return Row.sizeOf(key) <= closeMost && sounds.climbs(key, closeFall, false);
        }

        int countLearntOpenings() {
            int number = 0;
            for (int i = 0; i < learnt.count; i++) {
                if (isNewLead(i)) {
                    number++;
                }
            }
            return number;
        }

        /** Whether word i begins with an OPENING of 2 .. 4 SOUNDS with which no word ahead of it begins. */
        private boolean isNewLead(int i) {
            long key = leadAt(i);
            int size = Row.sizeOf(key);
            if (size < 2 || size > MOST_OPENING) {
                return false;
            }
            for (int j = 0; j < i; j++) {
                if (leadAt(j) == key) {
                    return false;
                }
            }
            return true;
        }

        private long leadAt(int i) {
            Row row = learnt.rowAt(i);
            return row == null ? 0 : row.lead;
        }

        /** How many LEGAL OPENINGS of so many SOUNDS there are. */
        int countOpenings(int size) {
            if (size == 0) {
                return 1;
            }
            if (size == 1) {
                return sounds.count - sounds.countPeaks();
            }
            if (size > MOST_OPENING) {
                return 0;
            }
            int number = rise == NONE ? 0 : sounds.countChains(size, rise);
            for (int i = 0; i < toldCount && i < MOST_TOLD; i++) {
                if (Row.sizeOf(told[i]) == size && !isRising(told[i])) {
                    number++;
                }
            }
            for (int i = 0; i < learnt.count; i++) {
                long key = leadAt(i);
                if (isNewLead(i) && Row.sizeOf(key) == size && !isTold(key) && !isRising(key)) {
                    number++;
                }
            }
            return number;
        }

        int countHearts(int size) {
            int peaks = sounds.countPeaks();
            return size == 1 ? peaks : peaks + glideCount;
        }

        int countClosings(int size) {
            if (size > closeMost) {
                return 0;
            }
            return size == 0 ? 1 : sounds.countChains(size, closeFall);
        }
    }

    /** A WORD that is cut into SYLLABLES, in this way or that. */
    private static final class Cut {
        // No WORD of 12 SOUNDS has nearly so many cuts.
        private static final int MOST_CUTS = 100000;

        private final int[] heartAt = new int[Row.MOST];
        private final int[] heartSizes = new int[Row.MOST];
        private final int[] closings = new int[Row.MOST];
        private final int[] best = new int[Row.MOST];
        private Law law;
        private Row row;
        private Row ahead;
        private int came;
        private int went;
        int count;

        /** Finds the HEARTS; each GAP is an OPENING until it is cut. */
        void start(Law law, Row row) {
            this.law = law;
            this.row = row;
            ahead = null;
            came = 0;
            went = 0;
            count = 0;
            for (int i = 0; i < row.size && count < Row.MOST; i++) {
                if (law.sounds.isPeak(row.soundAt(i))) {
                    heartAt[count] = i;
                    heartSizes[count] = law.isLongHeart(row.soundAt(i), row.soundAt(i + 1)) ? 2 : 1;
                    i += heartSizes[count] - 1;
                    count++;
                }
            }
            clearClosings();
        }

        private void clearClosings() {
            for (int k = 0; k < count; k++) {
                closings[k] = k == count - 1 ? behind(k) : 0;
            }
        }

        boolean has(int k) {
            return k >= 0 && k < count && k < Row.MOST;
        }

        private int heartEnd(int k) {
            return k >= 0 && k < count && k < Row.MOST ? heartAt[k] + heartSizes[k] : 0;
        }

        /** How many SOUNDS there are from HEART k to the next one, or to the end. */
        int behind(int k) {
            int end = has(k + 1) ? heartAt[k + 1] : row.size;
            return end - heartEnd(k);
        }

        int ways() {
            int ways = count == 0 ? 0 : 1;
            for (int k = 0; k < count - 1; k++) {
                ways *= behind(k) + 1;
            }
            return ways;
        }

        void cutPlain() {
            for (int k = 0; k < count - 1; k++) {
                int gap = behind(k);
                int size = Math.min(gap, Law.MOST_OPENING);
                while (size > 0 && law.openingKind(row.key(heartAt[k + 1] - size, size)) == Law.NOT_LEGAL) {
                    size--;
                }
                closings[k] = gap - size;
            }
        }

        /** Cuts by the least COST, and tells it; that of equal COST which came first stays. */
        int cutCheapest() {
            clearClosings();
            System.arraycopy(closings, 0, best, 0, Row.MOST);
            int least = total();
            for (int i = 0; i < MOST_CUTS && cutNext(); i++) {
                int sum = total();
                if (sum < least) {
                    least = sum;
                    System.arraycopy(closings, 0, best, 0, Row.MOST);
                }
            }
            System.arraycopy(best, 0, closings, 0, Row.MOST);
            return least;
        }

        /** The next cut as a row of how many closing SOUNDS each GAP has; false, and the first one, behind the last. */
        private boolean cutNext() {
            for (int k = count - 2; k >= 0; k--) {
                if (closings[k] < behind(k)) {
                    closings[k]++;
                    return true;
                }
                closings[k] = 0;
            }
            return false;
        }

        int countUpTo(int most) {
            if (count == 0) {
                return 0;
            }
            clearClosings();
            int number = total() <= most ? 1 : 0;
            for (int i = 0; i < MOST_CUTS && cutNext(); i++) {
                number += total() <= most ? 1 : 0;
            }
            return number;
        }

        boolean cutAsTold(long told) {
            if (count == 0) {
                return false;
            }
            long rest = told;
            for (int k = 0; k < count - 1; k++) {
                int digit = (int) (rest & 15);
                if (digit > behind(k)) {
                    return false;
                }
                closings[k] = digit;
                rest >>>= 4;
            }
            return rest == 0;
        }

        void join(Row ahead, int came, int went) {
            this.ahead = ahead;
            this.came = ahead == null ? 0 : came;
            this.went = went;
        }

        boolean isChanged(int k) {
            return k == 0 && came > 0 || k == count - 1 && went > 0;
        }

        int begin(int k) {
            return k == 0 ? -came : heartEnd(k - 1) + (has(k - 1) ? closings[k - 1] : 0);
        }

        int openingSize(int k) {
            return has(k) ? heartAt[k] - begin(k) : 0;
        }

        int heartSize(int k) {
            return has(k) ? heartSizes[k] : 0;
        }

        int closingSize(int k) {
            return has(k) ? closings[k] - (k == count - 1 ? went : 0) : 0;
        }

        long openingKey(int k) {
            if (k == 0 && came > 0 && ahead != null) {
                return ahead.key(ahead.size - came, came);
            }
            return row.key(begin(k), openingSize(k));
        }

        long heartKey(int k) {
            return row.key(heartEnd(k) - heartSize(k), heartSize(k));
        }

        long closingKey(int k) {
            return row.key(heartEnd(k), closingSize(k));
        }

        /** All of the WORD from the HEART of SYLLABLE k on. */
        long endKey(int k) {
            int from = heartEnd(k) - heartSize(k);
            return row.key(from, row.size - from);
        }

        int weight(int k) {
            int heart = heartSize(k) == 2 ? law.longWeight : law.shortWeight;
            return heart + closingSize(k) * law.closingWeight;
        }

        boolean isHeavy(int k) {
            return weight(k) >= law.heavyFrom;
        }

        int countHeavy() {
            int number = 0;
            for (int k = 0; k < count; k++) {
                number += isHeavy(k) ? 1 : 0;
            }
            return number;
        }

        int costOf(int k) {
            int sum = closingSize(k) * law.costAt(Law.SHUT);
            int kind = law.openingKind(openingKey(k));
            if (openingSize(k) == 0) {
                sum += law.costAt(Law.BARE);
            } else if (kind == Law.RISING) {
                sum += law.costAt(Law.ROUGH);
            } else if (kind == Law.NOT_LEGAL) {
                sum += law.costAt(Law.WILD);
            }
            if (!law.isLegalClosing(closingKey(k))) {
                sum += law.costAt(Law.BURST);
            }
            if (k > 0 && isHeavy(k - 1) && isHeavy(k)) {
                sum += law.costAt(Law.CLASH);
            }
            return sum;
        }

        int total() {
            int sum = 0;
            for (int k = 0; k < count; k++) {
                sum += costOf(k);
            }
            return sum;
        }

        int firstNotLegal() {
            for (int k = 0; k < count; k++) {
                boolean opens = law.openingKind(openingKey(k)) != Law.NOT_LEGAL;
                if (!opens || !law.isLegalClosing(closingKey(k))) {
                    return k;
                }
            }
            return NONE;
        }

        int stressed() {
            int first = count - Math.min(law.stressWindow, count);
            for (int k = count - 2; k >= first; k--) {
                if (isHeavy(k)) {
                    return k;
                }
            }
            return count == 0 ? NONE : Math.max(0, count - law.stressBack);
        }
    }

    /** The WORDS that are said, and what joins them. */
    private static final class Speech {
        private final Cut cut;
        Words words = new Words(MOST_WORDS);
        Words spare = new Words(MOST_WORDS);

        Speech(Cut cut) {
            this.cut = cut;
        }

        void takeSpare() {
            Words read = spare;
            spare = words;
            words = read;
        }

        boolean hasSyllables() {
            for (int i = 0; i < words.count; i++) {
                Row row = words.rowAt(i);
                if (row != null && row.lead != 0) {
                    return true;
                }
            }
            return false;
        }

        /** How many SOUNDS go over to WORD k from the one ahead. */
        int goingOver(Law law, int k) {
            Row ahead = words.rowAt(k - 1);
            Row here = words.rowAt(k);
            if (ahead == null || here == null || !law.sounds.isPeak(here.soundAt(0))) {
                return 0;
            }
            cut.start(law, ahead);
            if (cut.count == 0) {
                return 0;
            }
            int size = Math.min(law.move, cut.closingSize(cut.count - 1));
            while (size > 0 && law.openingKind(ahead.key(ahead.size - size, size)) == Law.NOT_LEGAL) {
                size--;
            }
            return size;
        }

        boolean cutPlain(Law law, int k) {
            Row row = words.rowAt(k);
            if (row == null) {
                return false;
            }
            cut.start(law, row);
            cut.cutPlain();
            return true;
        }

        boolean cutJoined(Law law, int k) {
            int came = goingOver(law, k);
            int went = goingOver(law, k + 1);
            Row row = words.rowAt(k);
            if (row == null) {
                return false;
            }
            cut.start(law, row);
            cut.cutPlain();
            cut.join(words.rowAt(k - 1), came, went);
            return true;
        }

        int heavyJoined(Law law) {
            int number = 0;
            for (int k = 0; k < words.count; k++) {
                number += cutJoined(law, k) ? cut.countHeavy() : 0;
            }
            return number;
        }

        int heavyPlain(Law law) {
            int number = 0;
            for (int k = 0; k < words.count; k++) {
                number += cutPlain(law, k) ? cut.countHeavy() : 0;
            }
            return number;
        }

        int changed(Law law) {
            int number = 0;
            for (int k = 0; k < words.count; k++) {
                int syllables = cutJoined(law, k) ? cut.count : 0;
                for (int i = 0; i < syllables; i++) {
                    number += cut.isChanged(i) ? 1 : 0;
                }
            }
            return number;
        }

        int countMisfits(Law law, int n, int f) {
            int number = 0;
            int misfits = 0;
            for (int k = 0; k < words.count; k++) {
                int syllables = cutPlain(law, k) ? cut.count : 0;
                int stressed = syllables > 0 ? cut.stressed() : NONE;
                for (int i = 0; i < syllables; i++) {
                    boolean beats = n > 0 && (number - f) % n == 0;
                    misfits += beats != (i == stressed) ? 1 : 0;
                    number++;
                }
            }
            return misfits;
        }

        /** All of a WORD from the HEART of its STRESSED SYLLABLE on, as a key; 0 without HEARTS. */
        long stressedEnd(Law law, Row row) {
            cut.start(law, row);
            cut.cutPlain();
            return cut.count == 0 ? 0 : cut.endKey(cut.stressed());
        }
    }

    /** How often each OPENING, HEART and CLOSING is in the words that are learnt. */
    private static final class Tally {
        static final int SORTS = 3;
        private static final int MOST = MOST_LEARNT * Row.MOST;

        private final Cut cut;
        private final long[][] keys = new long[SORTS][MOST];
        private final int[][] times = new int[SORTS][MOST];
        private final int[] sizes = new int[SORTS];
        private int syllables;

        Tally(Cut cut) {
            this.cut = cut;
        }

        void fill(Law law) {
            for (int sort = 0; sort < SORTS; sort++) {
                sizes[sort] = 0;
            }
            syllables = 0;
            for (int i = 0; i < law.learnt.count; i++) {
                Row row = law.learnt.rowAt(i);
                if (row != null) {
                    cut.start(law, row);
                    cut.cutPlain();
                    countSyllables();
                }
            }
        }

        private void countSyllables() {
            for (int k = 0; k < cut.count; k++) {
                count(0, cut.openingKey(k));
                count(1, cut.heartKey(k));
                count(2, cut.closingKey(k));
                syllables++;
            }
        }

        private void count(int sort, long key) {
            int i = 0;
            while (i < sizes[sort] && keys[sort][i] != key) {
                i++;
            }
            if (i >= MOST) {
                return;
            }
            if (i == sizes[sort]) {
                keys[sort][i] = key;
                times[sort][i] = 0;
                sizes[sort]++;
            }
            times[sort][i]++;
        }

        int unlike(int sort) {
            return sort >= 0 && sort < SORTS ? sizes[sort] : NONE;
        }

        int tell(int sort, int i, int what) {
            if (i < 0 || i >= unlike(sort) || what < 0) {
                return NONE;
            }
            long key = keys[sort][i];
            switch (what) {
                case 0: return times[sort][i];
                case 1: return Row.sizeOf(key);
                default: return Row.soundIn(key, what - 2);
            }
        }

        /** The i-th SOUND of what is MADE, or how many there are for NONE. */
        int make(int seed, int n, int i) {
            if (syllables <= 0) {
                return NONE;
            }
            int draws = seed;
            int size = 0;
            for (int turn = 0; turn < n * SORTS; turn++) {
                draws = draws * 1103515245 + 12345;
                long key = drawn(turn % SORTS, (draws >>> 16) % syllables);
                int more = Row.sizeOf(key);
                if (i >= size && i < size + more) {
                    return Row.soundIn(key, i - size);
                }
                size += more;
            }
            return i == NONE ? size : NONE;
        }

        private long drawn(int sort, int which) {
            int passed = 0;
            for (int i = 0; i < sizes[sort]; i++) {
                passed += times[sort][i];
                if (which < passed) {
                    return keys[sort][i];
                }
            }
            return Row.EMPTY;
        }
    }

    /** Puts the fewest HELPERS into a WORD. */
    private static final class Mender {
        // Far above the number of ways in which places can be taken.
        private static final int MOST_TRIES = 100000;

        private final Cut cut;
        private final Row mended = new Row();
        private final int[] places = new int[Row.MOST + 1];

        Mender(Cut cut) {
            this.cut = cut;
        }

        /** How many HELPERS; CANNOT if it can't be. */
        int seek(Law law, Row row) {
            if (law.help == NONE) {
                return CANNOT;
            }
            int most = Math.min(row.size + 1, Row.MOST - row.size);
            for (int n = 0; n <= most; n++) {
                for (int i = 0; i < n; i++) {
                    places[i] = i;
                }
                boolean more = true;
                for (int tries = 0; more && tries < MOST_TRIES; tries++) {
                    if (fits(law, row, n)) {
                        return n;
                    }
                    more = takeNextPlaces(n, row.size);
                }
            }
            return CANNOT;
        }

        private boolean takeNextPlaces(int n, int last) {
            for (int i = n - 1; i >= 0; i--) {
                if (places[i] < last - (n - 1 - i)) {
                    places[i]++;
                    for (int j = i + 1; j < n; j++) {
                        places[j] = places[j - 1] + 1;
                    }
                    return true;
                }
            }
            return false;
        }

        private boolean fits(Law law, Row row, int n) {
            mended.clear();
            int used = 0;
            for (int place = 0; place <= row.size; place++) {
                if (used < n && places[used] == place) {
                    mended.add(law.help, true);
                    used++;
                }
                if (place < row.size) {
                    int sound = row.soundAt(place);
                    mended.add(sound, law.sounds.isPeak(sound));
                }
            }
            cut.start(law, mended);
            cut.cutPlain();
            return cut.count > 0 && cut.firstNotLegal() == NONE;
        }

        int placeOf(int i) {
            return i >= 0 && i < places.length ? places[i] : NONE;
        }
    }

    /** The latest ACTS that were not taken back. */
    private static final class Acts {
        static final int LEARN = 0;
        static final int FORGET = 1;
        static final int COST = 2;
        private static final int MOST = 12;

        private final int[] kinds = new int[MOST];
        private final int[] places = new int[MOST];
        private final int[] costs = new int[MOST];
        private final Row[] rows = new Row[MOST];
        int count;

        Acts() {
            for (int i = 0; i < MOST; i++) {
                rows[i] = new Row();
            }
        }

        void clear() {
            count = 0;
        }

        void note(int kind, int place, int cost, Row row) {
            if (count >= MOST) {
                dropOldest();
            }
            kinds[count] = kind;
            places[count] = place;
            costs[count] = cost;
            if (row != null) {
                rows[count].copy(row);
            }
            count++;
        }

        private void dropOldest() {
            Row oldest = rows[0];
            for (int i = 1; i < MOST; i++) {
                kinds[i - 1] = kinds[i];
                places[i - 1] = places[i];
                costs[i - 1] = costs[i];
                rows[i - 1] = rows[i];
            }
            rows[MOST - 1] = oldest;
            count = MOST - 1;
        }

        /** The latest act is no more kept; what latestKind() and its like tell is of it. */
        boolean takeLatest() {
            if (count <= 0) {
                return false;
            }
            count--;
            return true;
        }

        private boolean hasLatest() {
            return count >= 0 && count < MOST;
        }

        int latestKind() {
            return hasLatest() ? kinds[count] : NONE;
        }

        int latestPlace() {
            return hasLatest() ? places[count] : NONE;
        }

        int latestCost() {
            return hasLatest() ? costs[count] : NONE;
        }

        Row latestRow() {
            return hasLatest() ? rows[count] : null;
        }
    }
}
