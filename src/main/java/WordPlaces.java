import java.util.Arrays;

/** Every word of a book and where it stands; what it must do is told in ../shared/DOC.md. */
public final class WordPlaces {
    public static final int NONE = -1;

    private static final int NOTHING = -2000000000;
    private static final int NO_SUCH = -2;
    private static final int TOO_MANY = -3;
    private static final int BAD = -4;
    private static final int EMPTY = -6;
    private static final int NO_PLACE = -7;
    private static final int OTHER_WIDTH = -8;

    private static final int EDITIONS = 2;
    private static final int LINES = 40;
    private static final int LINE_BYTES = 60;
    private static final int PLACES = 300;
    private static final int FORMS = 600;
    private static final int LETTERS = 26;
    private static final int FORM_LETTERS = 20;
    private static final int TAPE_BYTES = 400;
    private static final int FEED_BYTES = 20;
    private static final int RULES = 20;
    private static final int ROOT_WORDS = 4;
    private static final int UNITS = 30;
    private static final int LEVELS = 7;
    private static final int MOST_AWAY = 50;
    private static final int HANDS = 4;
    private static final int IMAGES = 3;
    private static final int SHARES = 8;
    private static final int BEST_K = 10;
    private static final int PLACES_A_ROW = 6;
    private static final int LEAST_ROWS = 5;
    private static final int MOST_ROWS = 100;
    private static final int SLOTS = 4;
    private static final int WIDTHS = 4;
    private static final int NUMBERS = 60;

    private final byte[] tape = new byte[TAPE_BYTES];
    private int tapeLength = 0;

    private final Image now = new Image();
    private final Image[] images = {new Image(), new Image(), new Image()};
    private final boolean[] kept = new boolean[IMAGES];
    private final Book book = new Book();
    private final Likeness likeness = new Likeness();

    private final Tokens tokens = new Tokens(tape);
    private final RuleReader ruleReader = new RuleReader(tokens);
    private final Asker asker = new Asker(tokens, now.rules, book);
    private final Key key = new Key();

    private final int[] shareStarts = new int[SHARES];
    private int shareCount = 0;
    private final int[] rankedLines = new int[LINES];
    private final int[] rankedWorths = new int[LINES];
    private int rankedCount = 0;
    private int begunFirst = 0;
    private int begunCount = 0;
    private final int[] pages = new int[FORMS];
    private final Slots slots = new Slots();

    public WordPlaces() {
        Arrays.fill(pages, NONE);
    }

    // The TAPE.

    public int feed(int a, int b, int c, int d, int e) {
        if (tapeLength + FEED_BYTES > TAPE_BYTES) {
            return NONE;
        }
        putNumber(a);
        putNumber(b);
        putNumber(c);
        putNumber(d);
        putNumber(e);
        return tapeLength;
    }

    private void putNumber(int number) {
        for (int shift = 24; shift >= 0; shift -= 8) {
            if (tapeLength >= 0 && tapeLength < TAPE_BYTES) {
                tape[tapeLength] = (byte) (number >> shift);
                tapeLength++;
            }
        }
    }

    public int end(int n) {
        if (n < 0 || n > tapeLength) {
            return NONE;
        }
        tapeLength = n;
        return n;
    }

    private int takeTape() {
        int length = tapeLength;
        tapeLength = 0;
        return length;
    }

    private static boolean isLetter(int sign) {
        return sign >= 'a' && sign <= 'z';
    }

    /** The letter (0 .. 25) on byte i of the first ones of the TAPE, or NONE. */
    private int letterOn(int i, int length) {
        return i >= 0 && i < length && i < TAPE_BYTES && isLetter(tape[i]) ? tape[i] - 'a' : NONE;
    }

    // RULES and LINES.

    public int rules() {
        if (!ruleReader.read(takeTape())) {
            return BAD;
        }
        now.rules.copyFrom(ruleReader.draft);
        forgetBook();
        return now.rules.count;
    }

    public int fault(int what) {
        if (what == 0) {
            return tokens.fault;
        }
        return what == 1 ? tokens.faultPlace : NONE;
    }

    public int line(int edition) {
        if (!isEdition(edition)) {
            return NO_SUCH;
        }
        return addLine(edition, tape, takeTape());
    }

    public int right(int edition, int i) {
        if (!isEdition(edition) || i < 0 || i >= now.lineCount(edition)) {
            return NO_SUCH;
        }
        int length = takeTape();
        int answer = lineFault(edition, i, tape, length);
        if (answer != 0) {
            return answer;
        }
        now.putLine(edition, i, tape, length);
        forgetBook();
        return now.wordCount(edition);
    }

    public int lineOf(int edition, int slot) {
        if (!isEdition(edition) || !slots.isSlot(slot)) {
            return NO_SUCH;
        }
        if (slots.isEmpty(slot)) {
            return EMPTY;
        }
        if (slots.widthOf(slot) != 0) {
            return OTHER_WIDTH;
        }
        int length = slots.takeBytes(slot);
        return addLine(edition, slots.bytes, length);
    }

    private int addLine(int edition, byte[] bytes, int length) {
        int i = now.lineCount(edition);
        int answer = lineFault(edition, i, bytes, length);
        if (answer != 0) {
            return answer;
        }
        now.putLine(edition, i, bytes, length);
        forgetBook();
        return i;
    }

    /** What forbids these bytes as LINE i, or 0. */
    private int lineFault(int edition, int i, byte[] bytes, int length) {
        if (!isLineText(bytes, length)) {
            return BAD;
        }
        if (i >= LINES || now.wordCountWith(edition, i, bytes, length) > PLACES) {
            return TOO_MANY;
        }
        return 0;
    }

    private static boolean isLineText(byte[] bytes, int length) {
        if (length > LINE_BYTES || length > bytes.length) {
            return false;
        }
        for (int i = 0; i < length; i++) {
            if (!isLetter(bytes[i]) && bytes[i] != ' ' && bytes[i] != '-') {
                return false;
            }
        }
        return true;
    }

    private void forgetBook() {
        book.fresh = false;
        likeness.fresh = false;
    }

    private Book freshBook() {
        book.refresh(now);
        return book;
    }

    private Words freshWords(int edition) {
        book.refresh(now);
        return book.wordsOf(edition);
    }

    private static boolean isEdition(int edition) {
        return edition >= 0 && edition < EDITIONS;
    }

    // WORDS and FORMS.

    public int edition(int edition, int what) {
        if (!isEdition(edition)) {
            return NOTHING;
        }
        switch (what) {
            case 0: return now.lineCount(edition);
            case 1: return now.wordCount(edition);
            case 2: return freshWords(edition).differentForms;
            default: return NOTHING;
        }
    }

    public int word(int edition, int p, int what) {
        if (!isEdition(edition)) {
            return NOTHING;
        }
        Words words = freshWords(edition);
        if (!words.has(p)) {
            return NOTHING;
        }
        switch (what) {
            case 0: return words.forms[p];
            case 1: return words.lines[p];
            case 2: return words.ordinals[p];
            case 3: return words.cuts[p];
            default: return NOTHING;
        }
    }

    public int forms() {
        return freshBook().size;
    }

    public int form(int f, int what) {
        Book fresh = freshBook();
        if (!fresh.has(f) || what < 0) {
            return NOTHING;
        }
        long high = fresh.forms.high[f];
        long low = fresh.forms.low[f];
        if (what >= 10) {
            int letter = Key.letterAt(high, low, what - 10);
            return letter == NONE ? NONE : 'a' + letter;
        }
        switch (what) {
            case 0: return Key.lengthOf(high, low);
            case 1: return fresh.wordsOf(0).oftenOf(f);
            case 2: return fresh.wordsOf(1).oftenOf(f);
            case 3: return now.rules.isStop(high, low) ? 1 : 0;
            case 4: return now.rules.rootOf(high, low);
            default: return NOTHING;
        }
    }

    public int ordered(int i) {
        Book fresh = freshBook();
        return fresh.has(i) ? fresh.order[i] : NONE;
    }

    // ASKS.

    public int ask(int edition) {
        if (!isEdition(edition)) {
            return NO_SUCH;
        }
        book.refresh(now);
        return asker.solve(edition, takeTape()) ? asker.count : BAD;
    }

    public int answer(int i, int what) {
        if (i < 0 || i >= asker.count || i >= PLACES) {
            return NOTHING;
        }
        switch (what) {
            case 0: return asker.places[i];
            case 1: return asker.lines[i];
            case 2: return asker.ordinals[i];
            default: return NOTHING;
        }
    }

    // LISTS.

    public int stands(int edition, int f, int i) {
        if (!isEdition(edition) || !isForm(f)) {
            return NONE;
        }
        return freshWords(edition).placeOf(f, i);
    }

    private boolean isForm(int f) {
        return freshBook().has(f);
    }

    public int pack(int edition, int f, int k) {
        if (!isEdition(edition) || !isForm(f) || k < NONE || k > BEST_K) {
            return NO_SUCH;
        }
        Words words = freshWords(edition);
        return k == NONE ? words.leastBits(f) : words.bits(f, k);
    }

    public int room(int edition) {
        if (!isEdition(edition)) {
            return NO_SUCH;
        }
        Words words = freshWords(edition);
        int sum = 0;
        for (int f = 0; f < book.size; f++) {
            sum += words.leastBits(f);
        }
        return sum;
    }

    // SHARES.

    public int shares(int edition, int n) {
        if (!isEdition(edition) || n < 1 || n > SHARES) {
            return NO_SUCH;
        }
        shareCount = n;
        return freshWords(edition).divide(n, now.lineCount(edition), shareStarts);
    }

    public int share(int i) {
        return i >= 0 && i < shareCount && i < SHARES ? shareStarts[i] : NONE;
    }

    // LIKENESS.

    public int alike() {
        return freshLikeness().pairs;
    }

    public int matched(int p) {
        Likeness fresh = freshLikeness();
        return book.wordsOf(0).has(p) ? fresh.partners[p] : NONE;
    }

    private Likeness freshLikeness() {
        book.refresh(now);
        likeness.refresh(book.wordsOf(0), book.wordsOf(1));
        return likeness;
    }

    // SLIPS.

    public int slip(int h, int p) {
        if (!isHand(h) || p < 0 || p >= now.wordCount(0)) {
            return NO_SUCH;
        }
        int length = takeTape();
        if (!isOneWord(length)) {
            return BAD;
        }
        readLetters(0, length);
        // Kept as it was written, since later RULES fold a SLIP's letters anew.
        now.slips.put(Image.slipAt(h, p), key.high, key.low);
        return isWrong(freshWords(0), h, p) ? 0 : 1;
    }

    private static boolean isHand(int h) {
        return h >= 0 && h < HANDS;
    }

    private boolean isOneWord(int length) {
        return length >= 1 && length <= FORM_LETTERS && lettersOnTape(length) == length;
    }

    private void readFolded(int from, int to) {
        readLetters(from, to);
        key.map(now.rules.fold);
    }

    /** Makes the key of the letters that the TAPE has from one byte on up to another. */
    private void readLetters(int from, int to) {
        key.clear();
        for (int i = from; i < to; i++) {
            key.add(letterOn(i, to));
        }
    }

    private boolean isWrong(Words words, int h, int p) {
        int at = Image.slipAt(h, p);
        return p >= words.count || !words.keys.holds(p, now.slipHigh(at), now.slipLow(at));
    }

    public int hand(int h, int what) {
        if (!isHand(h) || what < 0 || what > 2) {
            return NOTHING;
        }
        Words words = freshWords(0);
        int written = 0;
        int wrong = 0;
        int bare = words.count;
        for (int p = 0; p < PLACES; p++) {
            if (now.hasSlip(h, p)) {
                written++;
                wrong += isWrong(words, h, p) ? 1 : 0;
                bare -= p < words.count ? 1 : 0;
            }
        }
        if (what == 0) {
            return written;
        }
        return what == 1 ? wrong : bare;
    }

    public int copied(int a, int b) {
        if (!isHand(a) || !isHand(b) || a == b) {
            return NO_SUCH;
        }
        Words words = freshWords(0);
        int sum = 0;
        for (int p = 0; p < PLACES; p++) {
            if (now.hasSlip(a, p) && isWrong(words, a, p) && areAlike(Image.slipAt(a, p), Image.slipAt(b, p))) {
                sum++;
            }
        }
        return sum;
    }

    private boolean areAlike(int at, int other) {
        return now.slipHigh(at) == now.slipHigh(other) && now.slipLow(at) == now.slipLow(other);
    }

    // Ranks.

    public int rank(int edition) {
        if (!isEdition(edition)) {
            return NO_SUCH;
        }
        int length = takeTape();
        Words words = freshWords(edition);
        words.clearWorths();
        for (int i = 0; i < length; i++) {
            int from = i;
            while (i < length && letterOn(i, length) != NONE) {
                i++;
            }
            if (i > from) {
                readFolded(from, i);
                words.addWorths(book.forms.find(book.size, key.high, key.low));
            }
        }
        rankedCount = 0;
        for (int line = 0; line < now.lineCount(edition) && line < LINES; line++) {
            if (words.worths[line] > 0) {
                insertRanked(line, words.worths[line]);
            }
        }
        return rankedCount;
    }

    /** LINES come in by their numbers, so a LINE goes behind those that are worth as much. */
    private void insertRanked(int line, int worth) {
        if (rankedCount < 0 || rankedCount >= LINES) {
            return;
        }
        int at = rankedCount;
        while (at > 0 && rankedWorths[at - 1] < worth) {
            rankedWorths[at] = rankedWorths[at - 1];
            rankedLines[at] = rankedLines[at - 1];
            at--;
        }
        rankedWorths[at] = worth;
        rankedLines[at] = line;
        rankedCount++;
    }

    public int ranked(int i, int what) {
        if (i < 0 || i >= rankedCount || i >= LINES) {
            return NOTHING;
        }
        if (what == 0) {
            return rankedLines[i];
        }
        return what == 1 ? rankedWorths[i] : NOTHING;
    }

    // Words begun.

    public int begins() {
        int length = takeTape();
        Book fresh = freshBook();
        readFolded(0, length);
        begunFirst = 0;
        begunCount = 0;
        // A key keeps twenty letters alone, but no FORM begins with more.
        if (lettersOnTape(length) > FORM_LETTERS) {
            return 0;
        }
        int found = fresh.forms.find(fresh.size, key.high, key.low);
        // FORMS with a beginning stand one behind the other, from where it would stand itself.
        begunFirst = found >= 0 ? found : NONE - found;
        while (begunFirst + begunCount < fresh.size && fresh.beginsWith(begunFirst + begunCount, key)) {
            begunCount++;
        }
        return begunCount;
    }

    private int lettersOnTape(int length) {
        int sum = 0;
        for (int i = 0; i < length; i++) {
            sum += letterOn(i, length) != NONE ? 1 : 0;
        }
        return sum;
    }

    public int begun(int i) {
        return i >= 0 && i < begunCount ? begunFirst + i : NONE;
    }

    // PAGES.

    public int print(int edition, int n) {
        if (!isEdition(edition) || n < LEAST_ROWS || n > MOST_ROWS) {
            return NO_SUCH;
        }
        Words words = freshWords(edition);
        Arrays.fill(pages, NONE);
        int row = 0;
        for (int i = 0; i < book.size && i < FORMS; i++) {
            int f = book.order[i];
            int rows = rowsOf(words, f);
            if (rows > 0 && book.has(f)) {
                int used = row % n;
                if (used > 0 && used + rows > n) {
                    row += n - used;
                }
                pages[f] = row / n;
                row += rows;
            }
        }
        return (row + n - 1) / n;
    }

    /** How many rows of the PAGES a FORM takes: none if it is not printed. */
    private int rowsOf(Words words, int f) {
        if (!book.has(f) || words.often[f] <= 0 || now.rules.isStop(book.forms.high[f], book.forms.low[f])) {
            return 0;
        }
        return 1 + (words.often[f] + PLACES_A_ROW - 1) / PLACES_A_ROW;
    }

    public int page(int f) {
        return f >= 0 && f < FORMS ? pages[f] : NONE;
    }

    // The whole.

    public int count(int what) {
        switch (what) {
            case 0: return now.lineCount(0) + now.lineCount(1);
            case 1: return now.wordCount(0) + now.wordCount(1);
            case 2: return now.rules.count;
            case 3: return now.rules.stopCount;
            case 4: return now.rules.rootCount;
            case 5: return tapeLength;
            case 6: return now.slipCount();
            case 7: return slots.filled();
            case 8: return now.rules.foldCount;
            default: return NONE;
        }
    }

    public int keep(int k) {
        if (k < 0 || k >= IMAGES) {
            return NO_SUCH;
        }
        images[k].copyFrom(now);
        kept[k] = true;
        return 0;
    }

    public int back(int k) {
        if (k < 0 || k >= IMAGES) {
            return NO_SUCH;
        }
        if (!kept[k]) {
            return EMPTY;
        }
        now.copyFrom(images[k]);
        forgetBook();
        return 0;
    }

    // SLOTS.

    public int row(int slot, int width, int n) {
        if (!slots.isSlot(slot) || width < 0 || width >= WIDTHS || n > NUMBERS) {
            return NO_SUCH;
        }
        if (n < 0) {
            return TOO_MANY;
        }
        slots.make(slot, width, n);
        return 0;
    }

    public int write(int slot, int i, long v) {
        if (!slots.isSlot(slot)) {
            return NO_SUCH;
        }
        if (slots.isEmpty(slot)) {
            return EMPTY;
        }
        return slots.put(slot, i, v) ? 0 : NO_PLACE;
    }

    public int paste(int slot, int i, int to, int k, int n) {
        if (!slots.isSlot(slot) || !slots.isSlot(to)) {
            return NO_SUCH;
        }
        if (slots.isEmpty(slot) || slots.isEmpty(to)) {
            return EMPTY;
        }
        if (slots.widthOf(slot) != slots.widthOf(to)) {
            return OTHER_WIDTH;
        }
        return slots.move(slot, i, to, k, n) ? 0 : NO_PLACE;
    }

    /** A FORM as two numbers: five bits a letter (0 behind the last), ten letters each, so that they compare as letters do. */
    private static final class Key {
        static final int HALF = 10;
        static final int TOP_SHIFT = 45;
        static final long ALL_BITS = (1L << 50) - 1;

        long high = 0;
        long low = 0;
        int length = 0;

        void clear() {
            high = 0;
            low = 0;
            length = 0;
        }

        /** What is no letter (0 .. 25) is left out, and so are those behind the twentieth. */
        void add(int letter) {
            if (length >= FORM_LETTERS || letter < 0 || letter >= LETTERS) {
                return;
            }
            long bits = (letter + 1L) << (TOP_SHIFT - 5 * (length % HALF));
            if (length < HALF) {
                high |= bits;
            } else {
                low |= bits;
            }
            length++;
        }

        void map(byte[] to) {
            high = mapped(high, to);
            low = mapped(low, to);
        }

        static long mapped(long half, byte[] to) {
            long answer = 0;
            for (int shift = TOP_SHIFT; shift >= 0; shift -= 5) {
                int letter = (int) ((half >> shift) & 31) - 1;
                if (letter >= 0 && letter < to.length) {
                    answer |= (to[letter] + 1L) << shift;
                }
            }
            return answer;
        }

        static int letterAt(long high, long low, int i) {
            if (i < 0 || i >= FORM_LETTERS) {
                return NONE;
            }
            long half = i < HALF ? high : low;
            return (int) ((half >> (TOP_SHIFT - 5 * (i % HALF))) & 31) - 1;
        }

        static int lengthOf(long high, long low) {
            int length = 0;
            while (length < FORM_LETTERS && letterAt(high, low, length) != NONE) {
                length++;
            }
            return length;
        }

        /** The bits of a half that its first letters take. */
        static long firstBits(int letters) {
            int taken = Math.max(0, Math.min(HALF, letters));
            return ALL_BITS & ~((1L << (50 - 5 * taken)) - 1);
        }
    }

    /** A row of keys; some rows are kept rising, so that a key is found by halving. */
    private static final class KeyRow {
        final long[] high;
        final long[] low;

        KeyRow(int size) {
            int safe = Math.max(0, size);
            high = new long[safe];
            low = new long[safe];
        }

        void put(int i, long highHalf, long lowHalf) {
            if (i >= 0 && i < high.length) {
                high[i] = highHalf;
                low[i] = lowHalf;
            }
        }

        boolean holds(int i, long highHalf, long lowHalf) {
            return i >= 0 && i < high.length && high[i] == highHalf && low[i] == lowHalf;
        }

        /** The place of a key among the first ones, which rise; or -1 less the place where it would stand. */
        int find(int size, long highHalf, long lowHalf) {
            int from = 0;
            int to = Math.min(size, high.length);
            while (from < to) {
                int middle = (from + to) >>> 1;
                int sign = Long.compare(high[middle], highHalf);
                if (sign == 0) {
                    sign = Long.compare(low[middle], lowHalf);
                }
                if (sign == 0) {
                    return middle;
                }
                if (sign < 0) {
                    from = middle + 1;
                } else {
                    to = middle;
                }
            }
            return -1 - from;
        }

        void insert(int size, int at, long highHalf, long lowHalf) {
            if (at < 0 || at > size || size >= high.length) {
                return;
            }
            System.arraycopy(high, at, high, at + 1, size - at);
            System.arraycopy(low, at, low, at + 1, size - at);
            put(at, highHalf, lowHalf);
        }

        void map(int i, byte[] to) {
            if (i >= 0 && i < high.length) {
                put(i, Key.mapped(high[i], to), Key.mapped(low[i], to));
            }
        }

        void copyFrom(KeyRow other) {
            int size = Math.min(high.length, other.high.length);
            System.arraycopy(other.high, 0, high, 0, size);
            System.arraycopy(other.low, 0, low, 0, size);
        }
    }

    /** RULES as they are told: folds, STOPS, ROOTS and the ORDER. */
    private static final class Rules {
        int count = 0;
        final byte[] fold = new byte[LETTERS];
        final byte[] folded = new byte[LETTERS];
        int foldCount = 0;
        final KeyRow stops = new KeyRow(RULES);
        int stopCount = 0;
        final KeyRow roots = new KeyRow(RULES);
        int rootCount = 0;
        final KeyRow members = new KeyRow(RULES * ROOT_WORDS);
        final int[] memberCounts = new int[RULES];
        final byte[] rank = new byte[LETTERS];
        boolean hasOrder = false;

        Rules() {
            clear();
        }

        void clear() {
            count = 0;
            foldCount = 0;
            stopCount = 0;
            rootCount = 0;
            hasOrder = false;
            for (int i = 0; i < LETTERS; i++) {
                fold[i] = (byte) i;
                rank[i] = (byte) i;
                folded[i] = 0;
            }
            Arrays.fill(memberCounts, 0);
        }

        void copyFrom(Rules other) {
            count = other.count;
            foldCount = other.foldCount;
            stopCount = other.stopCount;
            rootCount = other.rootCount;
            hasOrder = other.hasOrder;
            System.arraycopy(other.fold, 0, fold, 0, LETTERS);
            System.arraycopy(other.rank, 0, rank, 0, LETTERS);
            System.arraycopy(other.folded, 0, folded, 0, LETTERS);
            System.arraycopy(other.memberCounts, 0, memberCounts, 0, RULES);
            stops.copyFrom(other.stops);
            roots.copyFrom(other.roots);
            members.copyFrom(other.members);
        }

        /** WORDS of RULES are folded by all folds, those that stand behind them too. */
        void foldAll() {
            for (int i = 0; i < RULES; i++) {
                stops.map(i, fold);
                roots.map(i, fold);
            }
            for (int i = 0; i < RULES * ROOT_WORDS; i++) {
                members.map(i, fold);
            }
        }

        boolean isStop(long high, long low) {
            for (int i = 0; i < stopCount; i++) {
                if (stops.holds(i, high, low)) {
                    return true;
                }
            }
            return false;
        }

        /** The first ROOT that has a FORM behind of. */
        int rootOf(long high, long low) {
            for (int root = 0; root < rootCount && root < RULES; root++) {
                for (int i = 0; i < memberCounts[root]; i++) {
                    if (members.holds(root * ROOT_WORDS + i, high, low)) {
                        return root;
                    }
                }
            }
            return NONE;
        }

        int rootNamed(long high, long low) {
            for (int root = 0; root < rootCount; root++) {
                if (roots.holds(root, high, low)) {
                    return root;
                }
            }
            return NONE;
        }
    }

    /** What an IMAGE keeps: RULES, LINES and SLIPS. */
    private static final class Image {
        static final int BYTES = EDITIONS * LINES * LINE_BYTES;

        final Rules rules = new Rules();
        final byte[] bytes = new byte[BYTES];
        final int[] lengths = new int[EDITIONS * LINES];
        final int[] runs = new int[EDITIONS * LINES];
        final byte[] dashed = new byte[EDITIONS * LINES];
        final int[] lineCounts = new int[EDITIONS];
        /** SLIPS as they were written; 0 where there is none. */
        final KeyRow slips = new KeyRow(HANDS * PLACES);

        void copyFrom(Image other) {
            rules.copyFrom(other.rules);
            System.arraycopy(other.bytes, 0, bytes, 0, BYTES);
            System.arraycopy(other.lengths, 0, lengths, 0, EDITIONS * LINES);
            System.arraycopy(other.runs, 0, runs, 0, EDITIONS * LINES);
            System.arraycopy(other.dashed, 0, dashed, 0, EDITIONS * LINES);
            System.arraycopy(other.lineCounts, 0, lineCounts, 0, EDITIONS);
            slips.copyFrom(other.slips);
        }

        int lineCount(int edition) {
            return isEdition(edition) ? lineCounts[edition] : 0;
        }

        int lengthAt(int at) {
            return at >= 0 && at < EDITIONS * LINES ? lengths[at] : 0;
        }

        int byteAt(int at) {
            return at >= 0 && at < BYTES ? bytes[at] : ' ';
        }

        void putLine(int edition, int i, byte[] text, int length) {
            if (!isEdition(edition) || i < 0 || i >= LINES || length < 0 || length > LINE_BYTES || length > text.length) {
                return;
            }
            int at = edition * LINES + i;
            System.arraycopy(text, 0, bytes, at * LINE_BYTES, length);
            lengths[at] = length;
            runs[at] = runsIn(text, length);
            dashed[at] = (byte) (endsInDash(text, length) ? 1 : 0);
            lineCounts[edition] = Math.max(lineCounts[edition], i + 1);
        }

        static int runsIn(byte[] text, int length) {
            int sum = 0;
            boolean inRun = false;
            for (int i = 0; i < length && i < text.length; i++) {
                boolean letter = isLetter(text[i]);
                sum += letter && !inRun ? 1 : 0;
                inRun = letter;
            }
            return sum;
        }

        static boolean endsInDash(byte[] text, int length) {
            return length >= 2 && length <= text.length && text[length - 1] == '-' && isLetter(text[length - 2]);
        }

        int wordCount(int edition) {
            int sum = 0;
            for (int i = 0; i < lineCount(edition) && i < LINES; i++) {
                sum += runs[edition * LINES + i] - (isCut(edition, i) ? 1 : 0);
            }
            return sum;
        }

        /** Whether a LINE's last RUN is CUT. */
        boolean isCut(int edition, int i) {
            if (!isEdition(edition) || i < 0 || i + 1 >= lineCounts[edition] || i + 1 >= LINES) {
                return false;
            }
            int at = edition * LINES + i;
            return dashed[at] != 0 && runs[at + 1] > 0;
        }

        /** How many WORDS an EDITION would have with another LINE i, or a further one. */
        int wordCountWith(int edition, int i, byte[] text, int length) {
            int lines = Math.min(LINES, Math.max(lineCount(edition), i + 1));
            int sum = 0;
            boolean dashAhead = false;
            for (int line = 0; line < lines && isEdition(edition); line++) {
                int at = edition * LINES + line;
                int own = line == i ? runsIn(text, length) : runs[at];
                sum += own - (dashAhead && own > 0 ? 1 : 0);
                dashAhead = line == i ? endsInDash(text, length) : dashed[at] != 0;
            }
            return sum;
        }

        static int slipAt(int h, int p) {
            return h * PLACES + p;
        }

        /** A SLIP has a letter at least, so its key is never 0. */
        boolean hasSlip(int h, int p) {
            return !slips.holds(slipAt(h, p), 0, 0);
        }

        /** The first half of a SLIP's FORM, by the RULES that stand now. */
        long slipHigh(int at) {
            return at >= 0 && at < slips.high.length ? Key.mapped(slips.high[at], rules.fold) : 0;
        }

        long slipLow(int at) {
            return at >= 0 && at < slips.low.length ? Key.mapped(slips.low[at], rules.fold) : 0;
        }

        int slipCount() {
            int sum = 0;
            for (int h = 0; h < HANDS; h++) {
                for (int p = 0; p < PLACES; p++) {
                    sum += hasSlip(h, p) ? 1 : 0;
                }
            }
            return sum;
        }
    }

    /** The WORDS of an EDITION, and the LIST of each FORM. */
    private static final class Words {
        int count = 0;
        final KeyRow keys = new KeyRow(PLACES);
        final int[] lines = new int[PLACES];
        final int[] ordinals = new int[PLACES];
        final int[] cuts = new int[PLACES];
        final int[] forms = new int[PLACES];
        final int[] often = new int[FORMS];
        /** The LISTS of all FORMS, one behind the other, and where each begins. */
        final int[] listed = new int[PLACES];
        final int[] starts = new int[FORMS];
        int differentForms = 0;
        final int[] begunIn = new int[LINES];
        final int[] worths = new int[LINES];
        final byte[] worthTold = new byte[FORMS];
        private final Key key = new Key();

        boolean has(int p) {
            return p >= 0 && p < count && p < PLACES;
        }

        void cutOut(Image image, int edition) {
            count = 0;
            Arrays.fill(begunIn, 0);
            boolean goesOn = false;
            for (int line = 0; line < image.lineCount(edition) && line < LINES; line++) {
                goesOn = cutLine(image, edition, line, goesOn, image.isCut(edition, line));
            }
        }

        /** Cuts a LINE; goesOn: the latest WORD goes on with the next RUN; cutLast: so will this LINE's last. */
        private boolean cutLine(Image image, int edition, int line, boolean goesOn, boolean cutLast) {
            int at = (edition * LINES + line) * LINE_BYTES;
            int end = at + image.lengthAt(edition * LINES + line);
            boolean open = goesOn;
            while (at < end) {
                if (isLetter(image.byteAt(at))) {
                    if (!open) {
                        beginWord(line);
                    }
                    while (at < end && isLetter(image.byteAt(at))) {
                        key.add(image.byteAt(at) - 'a');
                        at++;
                    }
                    // The last RUN alone stands right ahead of a last byte.
                    open = at == end - 1 && cutLast;
                    endRun(image.rules.fold, open);
                } else {
                    at++;
                }
            }
            return open;
        }

        private void beginWord(int line) {
            key.clear();
            if (count >= 0 && count < PLACES && line >= 0 && line < LINES) {
                lines[count] = line;
                ordinals[count] = begunIn[line];
                cuts[count] = 0;
                begunIn[line]++;
                count++;
            }
        }

        private void endRun(byte[] fold, boolean cut) {
            int p = count - 1;
            if (p < 0 || p >= PLACES) {
                return;
            }
            keys.put(p, Key.mapped(key.high, fold), Key.mapped(key.low, fold));
            if (cut) {
                cuts[p] = 1;
            }
        }

        /** Gives each WORD its FORM's number, and each FORM its LIST. */
        void number(KeyRow allForms, int size) {
            Arrays.fill(often, 0);
            for (int p = 0; p < count && p < PLACES; p++) {
                int f = allForms.find(size, keys.high[p], keys.low[p]);
                forms[p] = f;
                if (f >= 0 && f < FORMS) {
                    often[f]++;
                }
            }
            differentForms = 0;
            int end = 0;
            for (int f = 0; f < FORMS; f++) {
                differentForms += often[f] > 0 ? 1 : 0;
                end += often[f];
                starts[f] = end;
            }
            fillLists();
        }

        /** Goes from the last PLACE to the first, so that each start comes down from its LIST's end. */
        private void fillLists() {
            for (int p = Math.min(count, PLACES) - 1; p >= 0; p--) {
                int f = forms[p];
                if (f >= 0 && f < FORMS && starts[f] > 0 && starts[f] <= PLACES) {
                    starts[f]--;
                    listed[starts[f]] = p;
                }
            }
        }

        int oftenOf(int f) {
            return f >= 0 && f < FORMS ? often[f] : 0;
        }

        /** PLACE i of a FORM, or NONE. */
        int placeOf(int f, int i) {
            if (f < 0 || f >= FORMS || i < 0 || i >= often[f]) {
                return NONE;
            }
            int at = starts[f] + i;
            return at >= 0 && at < PLACES ? listed[at] : NONE;
        }

        /** Bits of a FORM's LIST, packed by k. */
        int bits(int f, int k) {
            int sum = 0;
            int ahead = NONE;
            for (int i = 0; i < oftenOf(f); i++) {
                int p = placeOf(f, i);
                sum += ((p - ahead - 1) >> k) + 1 + k;
                ahead = p;
            }
            return sum;
        }

        int leastBits(int f) {
            int least = bits(f, 0);
            for (int k = 1; k <= BEST_K; k++) {
                least = Math.min(least, bits(f, k));
            }
            return least;
        }

        /** Puts down where the SHARES begin; answers the WORDS of the greatest. */
        int divide(int hands, int lineCount, int[] shareStarts) {
            int lineEnd = Math.min(lineCount, LINES);
            int most = 0;
            while (most < PLACES && handsNeeded(0, lineEnd, most) > hands) {
                most++;
            }
            int line = 0;
            for (int h = 0; h < hands && h < shareStarts.length; h++) {
                shareStarts[h] = line;
                while (line < lineEnd && handsNeeded(line, lineEnd, most) > hands - h - 1) {
                    line++;
                }
            }
            return most;
        }

        /** How many hands the LINES from one on need, none with more WORDS than so many; beyond all if a LINE has more. */
        private int handsNeeded(int from, int lineEnd, int most) {
            int hands = from < lineEnd ? 1 : 0;
            int sum = 0;
            for (int line = Math.max(0, from); line < lineEnd && line < LINES; line++) {
                if (begunIn[line] > most) {
                    return LINES + 1;
                }
                sum += begunIn[line];
                if (sum > most) {
                    hands++;
                    sum = begunIn[line];
                }
            }
            return hands;
        }

        void clearWorths() {
            Arrays.fill(worths, 0);
            Arrays.fill(worthTold, (byte) 0);
        }

        /** Adds a FORM's worth to the LINES in which it begins, if that is not told already. */
        void addWorths(int f) {
            if (f < 0 || f >= FORMS || worthTold[f] != 0) {
                return;
            }
            worthTold[f] = 1;
            int lineSum = linesWith(f);
            int ahead = NONE;
            for (int i = 0; i < oftenOf(f) && lineSum > 0; i++) {
                int line = lineOfPlace(placeOf(f, i));
                if (line != ahead && line >= 0 && line < LINES) {
                    worths[line] += 1000 / lineSum;
                }
                ahead = line;
            }
        }

        /** In how many LINES a FORM begins. */
        private int linesWith(int f) {
            int sum = 0;
            int ahead = NONE;
            for (int i = 0; i < oftenOf(f); i++) {
                int line = lineOfPlace(placeOf(f, i));
                sum += line != ahead ? 1 : 0;
                ahead = line;
            }
            return sum;
        }

        int lineOfPlace(int p) {
            return p >= 0 && p < PLACES ? lines[p] : NONE;
        }
    }

    /** The WORDS of both EDITIONS and all their FORMS, made anew when they are asked for after a change. */
    private static final class Book {
        boolean fresh = false;
        int size = 0;
        final KeyRow forms = new KeyRow(FORMS);
        final int[] order = new int[FORMS];
        private final KeyRow orderKeys = new KeyRow(FORMS);
        private final Words first = new Words();
        private final Words second = new Words();

        Words wordsOf(int edition) {
            return edition == 0 ? first : second;
        }

        boolean has(int f) {
            return f >= 0 && f < size && f < FORMS;
        }

        void refresh(Image image) {
            if (fresh) {
                return;
            }
            first.cutOut(image, 0);
            second.cutOut(image, 1);
            size = 0;
            gather(first);
            gather(second);
            first.number(forms, size);
            second.number(forms, size);
            bringToOrder(image.rules.rank);
            fresh = true;
        }

        private void gather(Words words) {
            for (int p = 0; p < words.count && p < PLACES; p++) {
                long high = words.keys.high[p];
                long low = words.keys.low[p];
                int found = forms.find(size, high, low);
                if (found < 0 && size < FORMS) {
                    forms.insert(size, -1 - found, high, low);
                    size++;
                }
            }
        }

        private void bringToOrder(byte[] rank) {
            for (int f = 0; f < size && f < FORMS; f++) {
                long high = Key.mapped(forms.high[f], rank);
                long low = Key.mapped(forms.low[f], rank);
                int found = orderKeys.find(f, high, low);
                int at = found < 0 ? -1 - found : found;
                if (at >= 0 && at <= f) {
                    orderKeys.insert(f, at, high, low);
                    System.arraycopy(order, at, order, at + 1, f - at);
                    order[at] = f;
                }
            }
        }

        boolean beginsWith(int f, Key key) {
            if (!has(f)) {
                return false;
            }
            long highBits = Key.firstBits(key.length);
            long lowBits = Key.firstBits(key.length - Key.HALF);
            return (forms.high[f] & highBits) == key.high && (forms.low[f] & lowBits) == key.low;
        }
    }

    /** The TOKENS of the TAPE, and the latest FAULT in them. */
    private static final class Tokens {
        static final int END = 0;
        static final int WORD = 1;
        static final int NUMBER = 2;
        static final int NO_TOKEN = 3;

        private final byte[] bytes;
        private int length = 0;
        private int start = 0;
        private int next = 0;
        /** One of these kinds, or the sign itself. */
        int kind = END;
        int number = 0;
        int fault = 0;
        int faultPlace = NONE;

        Tokens(byte[] text) {
            bytes = text;
        }

        void open(int size) {
            length = Math.max(0, Math.min(size, bytes.length));
            next = 0;
            fault = 0;
            faultPlace = NONE;
            advance();
        }

        boolean fail(int number) {
            fault = number;
            faultPlace = start;
            return false;
        }

        /** The byte that comes next, or NONE, which is no letter, digit or sign. */
        private int byteAhead() {
            return next >= 0 && next < length && next < bytes.length ? bytes[next] : NONE;
        }

        void advance() {
            while (next < length && (byteAhead() == ' ' || byteAhead() == '\n')) {
                next++;
            }
            start = next;
            int sign = byteAhead();
            if (next >= length) {
                kind = END;
            } else if (isLetter(sign)) {
                kind = WORD;
                while (next < length && isLetter(byteAhead())) {
                    next++;
                }
            } else if (isDigit(sign)) {
                readNumber();
            } else {
                kind = sign == ';' || sign == '(' || sign == ')' || sign == '"' ? sign : NO_TOKEN;
                next++;
            }
        }

        private static boolean isDigit(int sign) {
            return sign >= '0' && sign <= '9';
        }

        /** A number of any length counts as a thousand at most, which is too much anyway. */
        private void readNumber() {
            kind = NUMBER;
            number = 0;
            while (next < length && isDigit(byteAhead())) {
                number = Math.min(1000, number * 10 + byteAhead() - '0');
                next++;
            }
        }

        boolean is(String text) {
            if (kind != WORD || next - start != text.length()) {
                return false;
            }
            for (int i = 0; i < text.length(); i++) {
                if (letterAt(i) != text.charAt(i) - 'a') {
                    return false;
                }
            }
            return true;
        }

        int letterCount() {
            return kind == WORD ? next - start : 0;
        }

        int letterAt(int i) {
            int at = start + i;
            return i >= 0 && at >= 0 && at < next && at < bytes.length ? bytes[at] - 'a' : NONE;
        }

        /** The only letter of a word of one letter, else NONE. */
        int onlyLetter() {
            return letterCount() == 1 ? letterAt(0) : NONE;
        }

        void readInto(Key key) {
            key.clear();
            for (int i = 0; i < letterCount() && i < FORM_LETTERS; i++) {
                key.add(letterAt(i));
            }
        }
    }

    /** Reads RULES into a draft, so that a FAULT leaves those ahead as they are. */
    private static final class RuleReader {
        final Rules draft = new Rules();
        private final Tokens tokens;
        private final Key key = new Key();

        RuleReader(Tokens source) {
            tokens = source;
        }

        boolean read(int length) {
            tokens.open(length);
            draft.clear();
            for (int rule = 0; rule < RULES && tokens.kind != Tokens.END; rule++) {
                if (!readRule()) {
                    return false;
                }
            }
            if (tokens.kind != Tokens.END) {
                return refuseFurther();
            }
            draft.foldAll();
            return true;
        }

        private boolean refuseFurther() {
            if (!beginsRule()) {
                return tokens.fail(1);
            }
            return tokens.fail(tokens.is("order") && draft.hasOrder ? 2 : 3);
        }

        private boolean beginsRule() {
            return tokens.is("fold") || tokens.is("stop") || tokens.is("root") || tokens.is("order");
        }

        private boolean readRule() {
            boolean whole;
            if (tokens.is("fold")) {
                whole = readFold();
            } else if (tokens.is("stop")) {
                whole = readStop();
            } else if (tokens.is("root")) {
                whole = readRoot();
            } else if (tokens.is("order")) {
                whole = readOrder();
            } else {
                whole = tokens.fail(1);
            }
            if (!whole) {
                return false;
            }
            if (tokens.kind != ';') {
                return tokens.fail(1);
            }
            tokens.advance();
            draft.count++;
            return true;
        }

        private boolean readFold() {
            tokens.advance();
            int from = tokens.onlyLetter();
            if (from < 0 || from >= LETTERS) {
                return tokens.fail(1);
            }
            if (draft.folded[from] != 0) {
                return tokens.fail(2);
            }
            tokens.advance();
            if (!tokens.is("to")) {
                return tokens.fail(1);
            }
            tokens.advance();
            int to = tokens.onlyLetter();
            if (to < 0 || to >= LETTERS) {
                return tokens.fail(1);
            }
            tokens.advance();
            draft.fold[from] = (byte) to;
            draft.folded[from] = 1;
            draft.foldCount++;
            return true;
        }

        private boolean readStop() {
            tokens.advance();
            if (!readWord(draft.stops, draft.stopCount)) {
                return false;
            }
            draft.stopCount++;
            return true;
        }

        private boolean readRoot() {
            int root = draft.rootCount;
            tokens.advance();
            if (root < 0 || root >= RULES || !readWord(draft.roots, root)) {
                return false;
            }
            if (!tokens.is("of")) {
                return tokens.fail(1);
            }
            tokens.advance();
            int members = 0;
            do {
                if (members >= ROOT_WORDS) {
                    return tokens.fail(3);
                }
                if (!readWord(draft.members, root * ROOT_WORDS + members)) {
                    return false;
                }
                members++;
            } while (tokens.kind == Tokens.WORD);
            draft.memberCounts[root] = members;
            draft.rootCount++;
            return true;
        }

        private boolean readWord(KeyRow row, int i) {
            if (tokens.kind != Tokens.WORD) {
                return tokens.fail(1);
            }
            tokens.readInto(key);
            row.put(i, key.high, key.low);
            tokens.advance();
            return true;
        }

        private boolean readOrder() {
            if (draft.hasOrder) {
                return tokens.fail(2);
            }
            tokens.advance();
            if (tokens.kind != Tokens.WORD) {
                return tokens.fail(1);
            }
            Arrays.fill(draft.rank, (byte) NONE);
            for (int i = 0; i < tokens.letterCount(); i++) {
                int letter = tokens.letterAt(i);
                if (letter < 0 || letter >= LETTERS || draft.rank[letter] != NONE) {
                    return tokens.fail(2);
                }
                draft.rank[letter] = (byte) i;
            }
            rankOthers(tokens.letterCount());
            draft.hasOrder = true;
            tokens.advance();
            return true;
        }

        private void rankOthers(int from) {
            int rank = from;
            for (int letter = 0; letter < LETTERS; letter++) {
                if (draft.rank[letter] == NONE) {
                    draft.rank[letter] = (byte) rank;
                    rank++;
                }
            }
        }
    }

    /** Reads an ASK and works it as it reads; what answered ahead stays until it is whole. */
    private static final class Asker {
        private static final int NO_OPERATOR = 0;
        private static final int NEAR = 1;
        private static final int BEFORE = 2;
        private static final int FAR = 3;
        private static final int AND = 4;
        private static final int BUT = 5;
        private static final int OR = 6;

        private final Tokens tokens;
        private final Rules rules;
        private final Book book;
        private final Key key = new Key();
        private Words words;
        private int units = 0;
        /** For each level of ( two rows of PLACES: what is worked so far, and the UNIT behind its OP. */
        private final byte[][] sets = new byte[2 * LEVELS][PLACES];
        private final byte[] close = new byte[PLACES];
        private final byte[] lineHas = new byte[LINES];
        int count = 0;
        final int[] places = new int[PLACES];
        final int[] lines = new int[PLACES];
        final int[] ordinals = new int[PLACES];

        Asker(Tokens source, Rules ruled, Book asked) {
            tokens = source;
            rules = ruled;
            book = asked;
            words = asked.wordsOf(0);
        }

        boolean solve(int edition, int length) {
            words = book.wordsOf(edition);
            units = 0;
            tokens.open(length);
            if (!readAsk(0)) {
                return false;
            }
            if (tokens.kind != Tokens.END) {
                return tokens.fail(1);
            }
            putDown(sets[0]);
            return true;
        }

        private void putDown(byte[] found) {
            count = 0;
            for (int p = 0; words.has(p) && p < found.length && count < PLACES; p++) {
                if (found[p] == 1) {
                    places[count] = p;
                    lines[count] = words.lines[p];
                    ordinals[count] = words.ordinals[p];
                    count++;
                }
            }
        }

        /** Reads UNIT {OP UNIT} into the first row of its level, up to a TOKEN that is the end or a ). */
        private boolean readAsk(int level) {
            if (level < 0 || level >= LEVELS) {
                return tokens.fail(3);
            }
            byte[] left = sets[2 * level];
            byte[] right = sets[2 * level + 1];
            if (!readUnit(level, left)) {
                return false;
            }
            for (int unit = 0; unit < UNITS && tokens.kind != Tokens.END && tokens.kind != ')'; unit++) {
                int operator = operatorHere();
                if (operator == NO_OPERATOR) {
                    return tokens.fail(1);
                }
                tokens.advance();
                int away = 0;
                if (operator == NEAR || operator == BEFORE || operator == FAR) {
                    if (!isAway()) {
                        return false;
                    }
                    away = tokens.number;
                    tokens.advance();
                }
                if (!readUnit(level, right)) {
                    return false;
                }
                work(operator, away, left, right);
            }
            return true;
        }

        private boolean isAway() {
            if (tokens.kind != Tokens.NUMBER) {
                return tokens.fail(1);
            }
            return (tokens.number >= 1 && tokens.number <= MOST_AWAY) || tokens.fail(2);
        }

        private int operatorHere() {
            if (tokens.is("near")) {
                return NEAR;
            }
            if (tokens.is("before")) {
                return BEFORE;
            }
            if (tokens.is("far")) {
                return FAR;
            }
            if (tokens.is("and")) {
                return AND;
            }
            if (tokens.is("but")) {
                return BUT;
            }
            return tokens.is("or") ? OR : NO_OPERATOR;
        }

        private boolean isFreeWord() {
            return tokens.kind == Tokens.WORD && operatorHere() == NO_OPERATOR && !tokens.is("root");
        }

        private boolean readUnit(int level, byte[] target) {
            boolean rooted = tokens.is("root");
            boolean opens = tokens.kind == '(';
            if (!rooted && !opens && tokens.kind != '"' && !isFreeWord()) {
                return tokens.fail(1);
            }
            if (units >= UNITS || (opens && level + 1 >= LEVELS)) {
                return tokens.fail(3);
            }
            units++;
            if (opens) {
                return readNested(level, target);
            }
            if (tokens.kind == '"') {
                return readPhrase(target);
            }
            if (rooted) {
                tokens.advance();
                if (!isFreeWord()) {
                    return tokens.fail(1);
                }
            }
            tokens.readInto(key);
            key.map(rules.fold);
            tokens.advance();
            Arrays.fill(target, (byte) 0);
            if (rooted) {
                markRoot(target);
            } else if (!rules.isStop(key.high, key.low)) {
                mark(target, key.high, key.low);
            }
            return true;
        }

        private boolean readNested(int level, byte[] target) {
            tokens.advance();
            if (!readAsk(level + 1)) {
                return false;
            }
            if (tokens.kind != ')') {
                return tokens.fail(1);
            }
            tokens.advance();
            if (level >= 0 && level + 1 < LEVELS) {
                System.arraycopy(sets[2 * level + 2], 0, target, 0, Math.min(PLACES, target.length));
            }
            return true;
        }

        private boolean readPhrase(byte[] target) {
            Arrays.fill(target, (byte) 1);
            tokens.advance();
            if (tokens.kind != Tokens.WORD) {
                return tokens.fail(1);
            }
            for (int behind = 0; behind < TAPE_BYTES && tokens.kind == Tokens.WORD; behind++) {
                tokens.readInto(key);
                key.map(rules.fold);
                keepFollowed(target, behind);
                tokens.advance();
            }
            if (tokens.kind != '"') {
                return tokens.fail(1);
            }
            tokens.advance();
            return true;
        }

        /** Keeps the PLACES so many WORDS behind which the key's FORM stands. */
        private void keepFollowed(byte[] target, int behind) {
            for (int p = 0; p < PLACES && p < target.length; p++) {
                boolean stands = p + behind < words.count && words.keys.holds(p + behind, key.high, key.low);
                if (!stands) {
                    target[p] = 0;
                }
            }
        }

        private void mark(byte[] target, long high, long low) {
            int f = book.forms.find(book.size, high, low);
            for (int i = 0; i < words.oftenOf(f); i++) {
                int p = words.placeOf(f, i);
                if (p >= 0 && p < target.length) {
                    target[p] = 1;
                }
            }
        }

        private void markRoot(byte[] target) {
            int root = rules.rootNamed(key.high, key.low);
            if (root < 0 || root >= RULES) {
                return;
            }
            mark(target, key.high, key.low);
            for (int i = 0; i < rules.memberCounts[root] && i < ROOT_WORDS; i++) {
                int at = root * ROOT_WORDS + i;
                mark(target, rules.members.high[at], rules.members.low[at]);
            }
        }

        private void work(int operator, int away, byte[] left, byte[] right) {
            int size = Math.min(words.count, PLACES);
            if (operator == OR) {
                for (int p = 0; p < size && p < left.length && p < right.length; p++) {
                    left[p] |= right[p];
                }
                return;
            }
            Arrays.fill(close, (byte) 0);
            if (operator == AND || operator == BUT) {
                markSameLine(right, size);
            } else {
                markBehind(right, away, size);
            }
            if (operator == NEAR || operator == FAR) {
                markAhead(right, away, size);
            }
            int wanted = operator == FAR || operator == BUT ? 0 : 1;
            for (int p = 0; p < size && p < PLACES && p < left.length; p++) {
                if (close[p] != wanted) {
                    left[p] = 0;
                }
            }
        }

        /** Marks the PLACES whose LINE has one of the row's. */
        private void markSameLine(byte[] right, int size) {
            Arrays.fill(lineHas, (byte) 0);
            for (int p = 0; p < size && p < right.length; p++) {
                int line = words.lineOfPlace(p);
                if (line >= 0 && line < LINES && right[p] == 1) {
                    lineHas[line] = 1;
                }
            }
            for (int p = 0; p < size && p < PLACES; p++) {
                int line = words.lineOfPlace(p);
                if (line >= 0 && line < LINES) {
                    close[p] = lineHas[line];
                }
            }
        }

        /** Marks the PLACES behind which one of the row's stands, not too far away. */
        private void markBehind(byte[] right, int away, int size) {
            int found = NONE;
            for (int p = Math.min(size, Math.min(PLACES, right.length)) - 1; p >= 0; p--) {
                if (found != NONE && found - p <= away) {
                    close[p] = 1;
                }
                found = right[p] == 1 ? p : found;
            }
        }

        private void markAhead(byte[] right, int away, int size) {
            int found = NONE;
            for (int p = 0; p < size && p < PLACES && p < right.length; p++) {
                if (found != NONE && p - found <= away) {
                    close[p] = 1;
                }
                found = right[p] == 1 ? p : found;
            }
        }
    }

    /** The most pairs of like FORMS in both EDITIONS. */
    private static final class Likeness {
        private static final int LONGS = (PLACES + 63) / 64;

        boolean fresh = false;
        int pairs = 0;
        final int[] partners = new int[PLACES];
        /** A bit for each two PLACES: set if the most is kept without the one in EDITION 0. */
        private final long[] spared = new long[PLACES * LONGS];
        private int[] here = new int[PLACES + 1];
        private int[] behind = new int[PLACES + 1];

        void refresh(Words first, Words second) {
            if (fresh) {
                return;
            }
            Arrays.fill(spared, 0L);
            Arrays.fill(behind, 0);
            for (int p = Math.min(first.count, PLACES) - 1; p >= 0; p--) {
                fillRow(p, first.forms[p], second);
            }
            pairs = behind[0];
            pairUp(first, second);
            fresh = true;
        }

        private void fillRow(int p, int f, Words second) {
            int size = Math.min(second.count, PLACES);
            if (p < 0 || p >= PLACES || size < 0) {
                return;
            }
            here[size] = 0;
            for (int q = size - 1; q >= 0; q--) {
                if (second.forms[q] == f) {
                    here[q] = behind[q + 1] + 1;
                } else if (behind[q] >= here[q + 1]) {
                    here[q] = behind[q];
                    spared[p * LONGS + q / 64] |= 1L << (q % 64);
                } else {
                    here[q] = here[q + 1];
                }
            }
            int[] row = here;
            here = behind;
            behind = row;
        }

        private void pairUp(Words first, Words second) {
            Arrays.fill(partners, NONE);
            int p = 0;
            int q = 0;
            while (p < first.count && q < second.count && p < PLACES && q < PLACES) {
                if (first.forms[p] == second.forms[q]) {
                    partners[p] = q;
                    p++;
                    q++;
                } else if ((spared[p * LONGS + q / 64] >> (q % 64) & 1L) == 1L) {
                    p++;
                } else {
                    q++;
                }
            }
        }
    }

    /** SLOTS with their rows of numbers. */
    private static final class Slots {
        private final long[] numbers = new long[SLOTS * NUMBERS];
        private final int[] widths = new int[SLOTS];
        private final int[] sizes = new int[SLOTS];
        final byte[] bytes = new byte[NUMBERS];

        Slots() {
            Arrays.fill(sizes, NONE);
        }

        boolean isSlot(int slot) {
            return slot >= 0 && slot < SLOTS;
        }

        boolean isEmpty(int slot) {
            return !isSlot(slot) || sizes[slot] == NONE;
        }

        int widthOf(int slot) {
            return isSlot(slot) ? widths[slot] : NONE;
        }

        int filled() {
            int sum = 0;
            for (int slot = 0; slot < SLOTS; slot++) {
                sum += isEmpty(slot) ? 0 : 1;
            }
            return sum;
        }

        void make(int slot, int width, int n) {
            if (!isSlot(slot) || n < 0 || n > NUMBERS) {
                return;
            }
            widths[slot] = width;
            sizes[slot] = n;
            Arrays.fill(numbers, slot * NUMBERS, slot * NUMBERS + n, 0L);
        }

        boolean put(int slot, int i, long v) {
            if (!isSlot(slot) || i < 0 || i >= sizes[slot] || i >= NUMBERS) {
                return false;
            }
            numbers[slot * NUMBERS + i] = cut(v, widths[slot]);
            return true;
        }

        private static long cut(long v, int width) {
            switch (width) {
                case 0: return (byte) v;
                case 1: return (short) v;
                case 2: return (int) v;
                default: return v;
            }
        }

        boolean move(int slot, int i, int to, int k, int n) {
            if (!hasAll(slot, i, n) || !hasAll(to, k, n)) {
                return false;
            }
            // arraycopy copies a row onto itself as the numbers were ahead of it.
            System.arraycopy(numbers, slot * NUMBERS + i, numbers, to * NUMBERS + k, n);
            return true;
        }

        private boolean hasAll(int slot, int i, int n) {
            int size = isSlot(slot) ? Math.min(sizes[slot], NUMBERS) : NONE;
            return i >= 0 && n >= 0 && i <= size && n <= size - i;
        }

        /** Puts a row's numbers into the bytes; answers how many. */
        int takeBytes(int slot) {
            int size = isEmpty(slot) ? 0 : Math.min(sizes[slot], NUMBERS);
            for (int i = 0; i < size; i++) {
                bytes[i] = (byte) numbers[slot * NUMBERS + i];
            }
            return size;
        }
    }
}
