/**
 * Texts in their normal forms: characters are taken apart by tables, marks put into order, and put
 * together again; syllables by reckoning; and the text is parted into what a reader takes for one
 * character.
 *
 * <p>Every array is made with the object and used again, so that no call but a throwing one makes
 * an object.
 */
public final class NormalForms {
    public static final int NONE = -1;

    private static final int LAST_CHARACTER = 1114111;
    private static final int LAST_CLASS = 254;
    private static final int LAST_KIND = 14;
    private static final int LAST_FORM = 3;
    private static final int MOST_TEXT = 1000;
    private static final int MOST_FORM = 2000;
    private static final int MOST_RANGES = 60;
    private static final int MOST_ROWS = 120;
    private static final int MOST_EXCLUDED = 60;

    private final Ranges classes;
    private final Ranges kinds;
    private final Rows rows;
    private final Excluded excluded;
    private final Draft draft;
    private final Reader reader;
    private final int[] text;
    private int length;
    private final int[] formed;
    private int formedLength;
    private boolean asked;

    public NormalForms() {
        classes = new Ranges();
        kinds = new Ranges();
        rows = new Rows();
        excluded = new Excluded();
        draft = new Draft();
        reader = new Reader();
        text = new int[MOST_TEXT];
        length = 0;
        formed = new int[MOST_FORM];
        formedLength = 0;
        asked = false;
    }

    public void mark(int first, int last, int kind) throws IllegalArgumentException, IllegalStateException {
        if (!isRange(first, last) || kind < 0 || kind > LAST_CLASS) {
            throw new IllegalArgumentException("no range of characters, or no mark class");
        }
        if (classes.isFull()) {
            throw new IllegalStateException("60 ranges have a mark class");
        }
        classes.tell(first, last, kind);
    }

    public void property(int first, int last, int kind) throws IllegalArgumentException, IllegalStateException {
        if (!isRange(first, last) || kind < 0 || kind > LAST_KIND) {
            throw new IllegalArgumentException("no range of characters, or no kind");
        }
        if (kinds.isFull()) {
            throw new IllegalStateException("60 ranges have a kind");
        }
        kinds.tell(first, last, kind);
    }

    public void part(int character, int a, int b) throws IllegalArgumentException, IllegalStateException {
        if (!mayHaveRow(character) || !isCharacter(a) || !isCharacterOrNone(b)) {
            throw new IllegalArgumentException("no character that can be told a row, or no part of one");
        }
        if (b != NONE && rows.whole(a, b) != NONE) {
            throw new IllegalArgumentException("another character has this part row");
        }
        if (rows.wouldGive(character, a, b, NONE)) {
            throw new IllegalArgumentException("the row would give the character itself");
        }
        if (rows.isFull()) {
            throw new IllegalStateException("120 rows are told");
        }
        rows.tell(character, a, b, NONE, false);
    }

    public void loose(int character, int a, int b, int c) throws IllegalArgumentException, IllegalStateException {
        if (!mayHaveRow(character) || !isCharacter(a) || !isCharacterOrNone(b) || !isCharacterOrNone(c)) {
            throw new IllegalArgumentException("no character that can be told a row, or no part of one");
        }
        if (b == NONE && c != NONE) {
            throw new IllegalArgumentException("a third character without a second");
        }
        if (rows.wouldGive(character, a, b, c)) {
            throw new IllegalArgumentException("the row would give the character itself");
        }
        if (rows.isFull()) {
            throw new IllegalStateException("120 rows are told");
        }
        rows.tell(character, a, b, c, true);
    }

    public void exclude(int character, boolean is) throws IllegalArgumentException, IllegalStateException {
        if (!isCharacter(character)) {
            throw new IllegalArgumentException("no character");
        }
        if (!is) {
            excluded.remove(character);
            return;
        }
        if (excluded.has(character)) {
            return;
        }
        if (excluded.isFull()) {
            throw new IllegalStateException("60 characters are excluded");
        }
        excluded.put(character);
    }

    public int add(int a, int b, int c, int d, int e) throws IllegalArgumentException, IllegalStateException {
        int more = countUpToNone(a, b, c, d, e);
        if (!areCharacters(more, a, b, c, d, e)) {
            throw new IllegalArgumentException("no character");
        }
        if (more > MOST_TEXT - length) {
            throw new IllegalStateException("more than 1000 characters");
        }
        for (int i = 0; i < more; i++) {
            text[length] = pick(i, a, b, c, d, e);
            length++;
        }
        return length;
    }

    public int clear() {
        int before = length;
        length = 0;
        return before;
    }

    public int form(int form) throws IllegalArgumentException, IllegalStateException {
        if (!isForm(form)) {
            throw new IllegalArgumentException("no such form");
        }
        if (!makeDraft(form)) {
            throw new IllegalStateException("more than 2000 characters");
        }
        System.arraycopy(draft.characters, 0, formed, 0, draft.size);
        formedLength = draft.size;
        asked = true;
        return formedLength;
    }

    public int at(int i) {
        if (i < 0 || i >= formedLength) {
            return NONE;
        }
        return formed[i];
    }

    public int keep() throws IllegalStateException {
        if (!asked) {
            return length;
        }
        if (formedLength > MOST_TEXT) {
            throw new IllegalStateException("more than 1000 characters");
        }
        System.arraycopy(formed, 0, text, 0, formedLength);
        length = formedLength;
        return length;
    }

    public boolean isIn(int form) throws IllegalArgumentException, IllegalStateException {
        if (!isForm(form)) {
            throw new IllegalArgumentException("no such form");
        }
        if (!makeDraft(form)) {
            throw new IllegalStateException("more than 2000 characters");
        }
        return draft.isSameAs(text, length);
    }

    public boolean ends(int place) throws IndexOutOfBoundsException {
        if (!isPlace(place)) {
            throw new IndexOutOfBoundsException("no such place");
        }
        return length > 0 && Reader.isEnd(ruleAt(place));
    }

    public int rule(int place) throws IndexOutOfBoundsException {
        if (!isPlace(place)) {
            throw new IndexOutOfBoundsException("no such place");
        }
        return ruleAt(place);
    }

    public int readers() {
        int count = 0;
        reader.start();
        for (int place = 0; place < length; place++) {
            int kind = kinds.valueOf(text[place]);
            // A reader's character begins where the text does, and wherever one ends inside it.
            if (place == 0 || Reader.isEnd(reader.ruleBefore(kind))) {
                count++;
            }
            reader.pass(kind);
        }
        return count;
    }

    private int ruleAt(int place) {
        if (place == 0) {
            return 1;
        }
        if (place >= length) {
            return 2;
        }
        reader.start();
        for (int i = 0; i < place; i++) {
            reader.pass(kinds.valueOf(text[i]));
        }
        return reader.ruleBefore(kinds.valueOf(text[place]));
    }

    private boolean makeDraft(int form) {
        if (!draft.takeApart(text, length, rows, form >= 2)) {
            return false;
        }
        draft.readClasses(classes);
        draft.putInOrder();
        if (form % 2 == 1) {
            draft.putTogether(rows, classes, excluded);
        }
        return true;
    }

    private boolean mayHaveRow(int character) {
        return isCharacter(character) && !Syllables.has(character) && !rows.has(character);
    }

    private boolean isPlace(int place) {
        return place >= 0 && place <= length;
    }

    private static boolean isForm(int form) {
        return form >= 0 && form <= LAST_FORM;
    }

    private static boolean isCharacter(int character) {
        return character >= 0 && character <= LAST_CHARACTER;
    }

    private static boolean isCharacterOrNone(int character) {
        return character == NONE || isCharacter(character);
    }

    private static boolean isRange(int first, int last) {
        return isCharacter(first) && isCharacter(last) && first <= last;
    }

    private static int pick(int i, int a, int b, int c, int d, int e) {
        switch (i) {
            case 0:
                return a;
            case 1:
                return b;
            case 2:
                return c;
            case 3:
                return d;
            default:
                return e;
        }
    }

    private static int countUpToNone(int a, int b, int c, int d, int e) {
        int count = 0;
        while (count < 5 && pick(count, a, b, c, d, e) != NONE) {
            count++;
        }
        return count;
    }

    private static boolean areCharacters(int count, int a, int b, int c, int d, int e) {
        for (int i = 0; i < count; i++) {
            if (!isCharacter(pick(i, a, b, c, d, e))) {
                return false;
            }
        }
        return true;
    }

    /** Numbers told of characters by ranges. */
    private static final class Ranges {
        private final int[] firsts = new int[MOST_RANGES];
        private final int[] lasts = new int[MOST_RANGES];
        private final int[] values = new int[MOST_RANGES];
        private int count = 0;

        private boolean isFull() {
            return count >= MOST_RANGES;
        }

        private void tell(int first, int last, int value) {
            if (isFull()) {
                return;
            }
            firsts[count] = first;
            lasts[count] = last;
            values[count] = value;
            count++;
        }

        private int valueOf(int character) {
            // From the end, since the range told last counts.
            for (int i = count - 1; i >= 0; i--) {
                if (firsts[i] <= character && character <= lasts[i]) {
                    return values[i];
                }
            }
            return 0;
        }
    }

    /** The characters that are never put together. */
    private static final class Excluded {
        private final int[] characters = new int[MOST_EXCLUDED];
        private int count = 0;

        private boolean isFull() {
            return count >= MOST_EXCLUDED;
        }

        private boolean has(int character) {
            return find(character) != NONE;
        }

        private void put(int character) {
            if (isFull()) {
                return;
            }
            characters[count] = character;
            count++;
        }

        private void remove(int character) {
            int i = find(character);
            if (i == NONE) {
                return;
            }
            count--;
            characters[i] = characters[count];
        }

        private int find(int character) {
            for (int i = 0; i < count; i++) {
                if (characters[i] == character) {
                    return i;
                }
            }
            return NONE;
        }
    }

    /** Syllables, whose part rows are reckoned and not told. */
    private static final class Syllables {
        private static final int FIRST = 44032;
        private static final int LAST = 55203;
        private static final int LEAD = 4352;
        private static final int VOWEL = 4449;
        private static final int TAIL = 4519;
        private static final int LEADS = 19;
        private static final int VOWELS = 21;
        private static final int TAILS = 28;

        private static boolean has(int character) {
            return character >= FIRST && character <= LAST;
        }

        private static boolean hasTail(int syllable) {
            return (syllable - FIRST) % TAILS != 0;
        }

        private static int withoutTail(int syllable) {
            return syllable - (syllable - FIRST) % TAILS;
        }

        private static int lead(int syllable) {
            return LEAD + (syllable - FIRST) / (VOWELS * TAILS);
        }

        private static int vowel(int syllable) {
            return VOWEL + (syllable - FIRST) / TAILS % VOWELS;
        }

        /** The tail's character; of use only if the syllable has a tail. */
        private static int tail(int syllable) {
            return TAIL + (syllable - FIRST) % TAILS;
        }

        /** The syllable whose part row is a, b; NONE if there is none. */
        private static int whole(int a, int b) {
            int l = a - LEAD;
            int v = b - VOWEL;
            if (l >= 0 && l < LEADS && v >= 0 && v < VOWELS) {
                return FIRST + (l * VOWELS + v) * TAILS;
            }
            int t = b - TAIL;
            if (has(a) && !hasTail(a) && t > 0 && t < TAILS) {
                return a + t;
            }
            return NONE;
        }
    }

    /** The part rows and loose rows: those that were told, and those of the syllables. */
    private static final class Rows {
        /** A power of two above twice the most rows, so that a search by hash stays short. */
        private static final int SLOTS = 256;

        private final int[] characters = new int[MOST_ROWS];
        private final int[] firsts = new int[MOST_ROWS];
        private final int[] seconds = new int[MOST_ROWS];
        private final int[] thirds = new int[MOST_ROWS];
        private final boolean[] looses = new boolean[MOST_ROWS];
        private int count = 0;
        /** Of each slot the number of its row, and one more; 0 in an empty slot. */
        private final int[] slots = new int[SLOTS];
        private final int[] waiting = new int[MOST_ROWS];
        private final boolean[] seen = new boolean[MOST_ROWS];
        private int waitingCount = 0;

        private boolean isFull() {
            return count >= MOST_ROWS;
        }

        private boolean has(int character) {
            return find(character) != NONE;
        }

        private void tell(int character, int a, int b, int c, boolean isLoose) {
            if (isFull()) {
                return;
            }
            characters[count] = character;
            firsts[count] = a;
            seconds[count] = b;
            thirds[count] = c;
            looses[count] = isLoose;
            slots[slotFor(character)] = count + 1;
            count++;
        }

        private int find(int character) {
            return slots[slotFor(character)] - 1;
        }

        /** The slot of the character's row, or the empty one where it would stand. */
        private int slotFor(int character) {
            int slot = character & (SLOTS - 1);
            for (int i = 0; i < SLOTS; i++) {
                int row = slots[slot] - 1;
                if (row < 0 || characters[row] == character) {
                    return slot;
                }
                slot = (slot + 1) & (SLOTS - 1);
            }
            return slot;
        }

        /** Writes the row of a character into the three places of parts: how many it has, 0 without a row. */
        private int read(int character, boolean loosely, int[] parts) {
            if (Syllables.has(character)) {
                return readSyllable(character, parts);
            }
            int row = find(character);
            if (row < 0 || (looses[row] && !loosely)) {
                return 0;
            }
            parts[0] = firsts[row];
            parts[1] = seconds[row];
            parts[2] = thirds[row];
            if (seconds[row] == NONE) {
                return 1;
            }
            return thirds[row] == NONE ? 2 : 3;
        }

        private static int readSyllable(int syllable, int[] parts) {
            if (Syllables.hasTail(syllable)) {
                parts[0] = Syllables.withoutTail(syllable);
                parts[1] = Syllables.tail(syllable);
            } else {
                parts[0] = Syllables.lead(syllable);
                parts[1] = Syllables.vowel(syllable);
            }
            return 2;
        }

        /** The character or syllable whose part row is a, b (both characters); NONE if there is none. */
        private int whole(int a, int b) {
            for (int row = 0; row < count; row++) {
                if (seconds[row] == b && firsts[row] == a && !looses[row]) {
                    return characters[row];
                }
            }
            return Syllables.whole(a, b);
        }

        /**
         * Whether a, b or c, taken apart with all rows, gives a character that has no row. Rows are
         * followed once each: to write out all that they give could take 2 to the power of 120.
         */
        private boolean wouldGive(int wanted, int a, int b, int c) {
            for (int row = 0; row < count; row++) {
                seen[row] = false;
            }
            waitingCount = 0;
            if (follow(wanted, a) || follow(wanted, b) || follow(wanted, c)) {
                return true;
            }
            for (int i = 0; i < waitingCount && i < MOST_ROWS; i++) {
                int row = waiting[i];
                if (follow(wanted, firsts[row]) || follow(wanted, seconds[row]) || follow(wanted, thirds[row])) {
                    return true;
                }
            }
            return false;
        }

        private boolean follow(int wanted, int character) {
            if (!Syllables.has(character)) {
                return meet(wanted, character);
            }
            return meet(wanted, Syllables.lead(character))
                || meet(wanted, Syllables.vowel(character))
                || (Syllables.hasTail(character) && meet(wanted, Syllables.tail(character)));
        }

        private boolean meet(int wanted, int character) {
            if (character == wanted) {
                return true;
            }
            int row = find(character);
            if (row >= 0 && !seen[row] && waitingCount < MOST_ROWS) {
                seen[row] = true;
                waiting[waitingCount] = row;
                waitingCount++;
            }
            return false;
        }
    }

    /** A form in the making, so that the form asked for last stays while another may yet be refused. */
    private static final class Draft {
        /** No text needs a quarter of it: each of 2000 characters stands behind at most 120 rows. */
        private static final int MOST_STEPS = 1000000;

        private final int[] characters = new int[MOST_FORM];
        private final int[] classes = new int[MOST_FORM];
        private final int[] parts = new int[3];
        private int size = 0;

        /**
         * Takes the text apart; false if that gives more than 2000 characters. What is done stands
         * at the array's start, what is still to be taken apart at its end; as each of these gives
         * one character or more, the two touch only if there are too many.
         */
        private boolean takeApart(int[] text, int length, Rows rows, boolean loosely) {
            int done = 0;
            int next = MOST_FORM - length;
            System.arraycopy(text, 0, characters, next, length);
            for (int step = 0; step < MOST_STEPS && next < MOST_FORM; step++) {
                int character = characters[next];
                int count = rows.read(character, loosely, parts);
                if (count == 0) {
                    characters[done] = character;
                    done++;
                    next++;
                    continue;
                }
                next = next + 1 - count;
                if (next < done) {
                    return false;
                }
                System.arraycopy(parts, 0, characters, next, count);
            }
            size = done;
            return next == MOST_FORM;
        }

        private void readClasses(Ranges marks) {
            for (int i = 0; i < size; i++) {
                classes[i] = marks.valueOf(characters[i]);
            }
        }

        private void putInOrder() {
            for (int i = 1; i < size; i++) {
                if (classes[i] > 0) {
                    moveBack(i);
                }
            }
        }

        private void moveBack(int from) {
            int character = characters[from];
            int markClass = classes[from];
            int to = from;
            while (to > 0 && classes[to - 1] > markClass) {
                characters[to] = characters[to - 1];
                classes[to] = classes[to - 1];
                to--;
            }
            characters[to] = character;
            classes[to] = markClass;
        }

        private void putTogether(Rows rows, Ranges marks, Excluded excluded) {
            int left = 0;
            int starter = NONE;
            for (int i = 0; i < size; i++) {
                int composite = NONE;
                if (starter != NONE && isOpen(starter, left - 1, classes[i])) {
                    composite = compositeOf(characters[starter], characters[i], rows, marks, excluded);
                }
                if (composite != NONE) {
                    characters[starter] = composite;
                    continue;
                }
                characters[left] = characters[i];
                classes[left] = classes[i];
                if (classes[left] == 0) {
                    starter = left;
                }
                left++;
            }
            size = left;
        }

        /** Whether what stands between the starter and a character of a class lets them come together. */
        private boolean isOpen(int starter, int before, int markClass) {
            return before == starter || (classes[before] < markClass && classes[before] != 0);
        }

        private static int compositeOf(int a, int b, Rows rows, Ranges marks, Excluded excluded) {
            int whole = rows.whole(a, b);
            if (whole == NONE || marks.valueOf(whole) != 0 || excluded.has(whole)) {
                return NONE;
            }
            return whole;
        }

        private boolean isSameAs(int[] text, int length) {
            if (size != length) {
                return false;
            }
            for (int i = 0; i < length; i++) {
                if (characters[i] != text[i]) {
                    return false;
                }
            }
            return true;
        }
    }

    /** Passes over the kinds of a text and tells by which rule a reader's character ends, or not. */
    private static final class Reader {
        private static final int CR = 1;
        private static final int LF = 2;
        private static final int CONTROL = 3;
        private static final int EXTENDING = 4;
        private static final int JOINER = 5;
        private static final int FLAG = 6;
        private static final int LEADING_MARK = 7;
        private static final int SPACING_MARK = 8;
        private static final int L = 9;
        private static final int V = 10;
        private static final int T = 11;
        private static final int LV = 12;
        private static final int LVT = 13;
        private static final int PICTURE = 14;

        private int before = 0;
        private int flags = 0;
        private boolean behindPicture = false;
        private boolean behindJoinedPicture = false;

        private void start() {
            before = 0;
            flags = 0;
            behindPicture = false;
            behindJoinedPicture = false;
        }

        private void pass(int kind) {
            behindJoinedPicture = kind == JOINER && behindPicture;
            behindPicture = kind == PICTURE || (kind == EXTENDING && behindPicture);
            flags = kind == FLAG ? flags + 1 : 0;
            before = kind;
        }

        /** The rule for the place between what was passed (one character or more) and one of a kind. */
        private int ruleBefore(int after) {
            if (before == CR && after == LF) {
                return 3;
            }
            if (isLineOrControl(before)) {
                return 4;
            }
            if (isLineOrControl(after)) {
                return 5;
            }
            if (before == L && (after == L || after == V || after == LV || after == LVT)) {
                return 6;
            }
            if ((before == LV || before == V) && (after == V || after == T)) {
                return 7;
            }
            if ((before == LVT || before == T) && after == T) {
                return 8;
            }
            if (after == EXTENDING || after == JOINER) {
                return 9;
            }
            if (after == SPACING_MARK) {
                return 91;
            }
            if (before == LEADING_MARK) {
                return 92;
            }
            if (behindJoinedPicture && after == PICTURE) {
                return 11;
            }
            if (flags % 2 == 1 && after == FLAG) {
                return 12;
            }
            return 999;
        }

        private static boolean isLineOrControl(int kind) {
            return kind == CR || kind == LF || kind == CONTROL;
        }

        /** Whether a rule, in a text that is not empty, says that a reader's character ends. */
        private static boolean isEnd(int rule) {
            return rule == 1 || rule == 2 || rule == 4 || rule == 5 || rule == 999;
        }
    }
}
