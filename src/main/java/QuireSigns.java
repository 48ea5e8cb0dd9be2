/**
 * Quires of a book that are signed by letters and stars, with the leaves that are lost,
 * a pile of leaves, formulas, undo and a snapshot. README.md tells how it is used.
 */
public final class QuireSigns {
    public static final int UNKNOWN = -1;
    public static final int BAD_VALUE = -2;
    public static final int FULL = -3;
    public static final int NOT_POSSIBLE = -4;
    public static final int NONE = -5;

    private static final int MOST_QUIRES = 40;
    private static final int MOST_LEAVES = 24;
    private static final int MOST_PILED = 12;
    private static final int MOST_CHARACTERS = 60;
    private static final int MOST_STATES = 4;
    /** A text has room for this many entries: a letter, a digit and a comma each. */
    private static final int MOST_ENTRIES = MOST_CHARACTERS / 3;
    /** Five stars, two digits and a comma for each quire. */
    private static final int LONGEST_FORMULA = MOST_QUIRES * 8;
    /** A fault at index 0 is told by this number, at index 1 by one less, and so on. */
    private static final int FIRST_FAULT = -100;

    private final Book book = new Book();
    private final Book snapshot = new Book();
    private boolean snapshotTaken;
    private final History history = new History();
    private final Text text = new Text();
    private final Writer writer = new Writer();
    /** The leaves that readPile() finds, before it is known whether they can be a pile. */
    private final Row found = new Row(MOST_ENTRIES);

    public QuireSigns() {
    }

    // ---- alphabet, signing

    public int leaveOut(char letter, boolean out) {
        int number = letter - 'A';
        if (number < 0 || number >= Sign.LETTERS) {
            return UNKNOWN;
        }
        boolean outNow = !book.alphabet.has(number);
        if (out && !outNow && book.alphabet.letters() == 1) {
            return NOT_POSSIBLE;
        }
        if (out == outNow) {
            return NONE;
        }
        history.record(book);
        book.alphabet.turn(number);
        return book.alphabet.letters();
    }

    public int setSigning(int signing) {
        if (signing < 0 || signing > Book.SIGN_ALL) {
            return BAD_VALUE;
        }
        if (signing == book.signing) {
            return NONE;
        }
        history.record(book);
        book.signing = signing;
        return book.signedLeaves();
    }

    // ---- quires, leaves

    public int readFormula() {
        int fault = text.readAsFormula(book.alphabet);
        if (fault != Text.NO_FAULT) {
            return FIRST_FAULT - fault;
        }
        if (book.quires() + quiresOfText() > MOST_QUIRES) {
            return FULL;
        }
        history.record(book);
        for (int entry = 0; entry < text.entries(); entry++) {
            addEntry(entry);
        }
        return book.quires();
    }

    public int signNext(int leaves) {
        if (!isQuireSize(leaves)) {
            return BAD_VALUE;
        }
        if (book.quires() >= MOST_QUIRES) {
            return FULL;
        }
        int sign = book.alphabet.nextSign(book.lastLettersAhead(book.quires()));
        if (sign == Sign.NO_SIGN) {
            return NOT_POSSIBLE;
        }
        history.record(book);
        book.addQuire(book.quires(), sign, leaves);
        return book.quires() - 1;
    }

    public int insert(int quire, int stars, int leaves) {
        if (quire < 0 || quire > book.quires()) {
            return UNKNOWN;
        }
        if (stars < 1 || stars > Sign.MOST_STARS || !isQuireSize(leaves)) {
            return BAD_VALUE;
        }
        if (book.quires() >= MOST_QUIRES) {
            return FULL;
        }
        history.record(book);
        book.addQuire(quire, Sign.ofStars(stars), leaves);
        return book.leaves();
    }

    public int remove(int quire) {
        if (!book.hasQuire(quire)) {
            return UNKNOWN;
        }
        history.record(book);
        book.dropQuire(quire);
        return book.leaves();
    }

    public int lose(int leaf, boolean lost) {
        if (!book.hasLeaf(leaf)) {
            return UNKNOWN;
        }
        if (book.isLost(leaf) == lost) {
            return NONE;
        }
        history.record(book);
        book.turnLost(leaf);
        return book.leavesThere();
    }

    // ---- piles

    public int readPile() {
        int fault = text.readAsPile();
        if (fault != Text.NO_FAULT) {
            return FIRST_FAULT - fault;
        }
        if (!findLeavesOfText()) {
            return UNKNOWN;
        }
        if (!allFoundThereOnce()) {
            return NOT_POSSIBLE;
        }
        if (found.length() > MOST_PILED) {
            return FULL;
        }
        history.record(book);
        book.pile.empty();
        for (int i = 0; i < found.length(); i++) {
            book.addToPile(found.at(i));
        }
        return book.pile.length();
    }

    // ---- texts

    public int type(char character) {
        if (text.length() >= MOST_CHARACTERS) {
            return FULL;
        }
        text.add(character);
        return text.length();
    }

    public int clearText() {
        int length = text.length();
        text.empty();
        return length;
    }

    // ---- history

    public int undo() {
        if (history.states() == 0) {
            return NONE;
        }
        history.takeBack(book);
        return history.states();
    }

    public int keep() {
        snapshot.become(book);
        snapshotTaken = true;
        return book.quires();
    }

    public int restore() {
        if (!snapshotTaken) {
            return NONE;
        }
        history.record(book);
        book.become(snapshot);
        return book.quires();
    }

    // ---- what is told

    public int quire(int quire, int what) {
        if (!book.hasQuire(quire)) {
            return UNKNOWN;
        }
        int sign = book.signs.at(quire);
        switch (what) {
            case 0:
                return Sign.times(sign);
            case 1:
                return Sign.isStarred(sign) ? NONE : 'A' + Sign.letter(sign);
            case 2:
                return book.sizes.at(quire);
            case 3:
                return book.firstLeaf(quire);
            case 4:
                return book.signedIn(quire);
            case 5:
                return book.thereIn(quire);
            case 6:
                return book.sameAhead(quire);
            default:
                return BAD_VALUE;
        }
    }

    public int leaf(int leaf, int what) {
        if (!book.hasLeaf(leaf)) {
            return UNKNOWN;
        }
        int quire = book.quireOf(leaf);
        int number = book.numberOf(leaf);
        switch (what) {
            case 0:
                return quire;
            case 1:
                return number;
            case 2:
                return number <= book.signedIn(quire) ? 1 : 0;
            case 3:
                return leafHangingWith(leaf);
            case 4:
                return book.isLost(leaf) ? 1 : 0;
            case 5:
                return book.thereAhead(leaf);
            default:
                return BAD_VALUE;
        }
    }

    public int find() {
        int fault = text.readAsPile();
        if (fault != Text.NO_FAULT) {
            return FIRST_FAULT - fault;
        }
        if (text.entries() != 1) {
            return BAD_VALUE;
        }
        int leaf = book.leafSigned(text.firstSign(0), text.number(0));
        return leaf == Book.NO_LEAF ? NONE : leaf;
    }

    public int lapse(int rank, int what) {
        if (rank < 0 || what < 0 || what > 2) {
            return BAD_VALUE;
        }
        int quire = Lapses.quireAt(book, rank);
        if (quire == Lapses.NO_QUIRE) {
            return NONE;
        }
        switch (what) {
            case 0:
                return quire;
            case 1:
                return Lapses.kind(book, quire);
            default:
                return Lapses.width(book, quire);
        }
    }

    public int piled(int rank, int what) {
        if (rank < 0 || what < 0 || what > 1) {
            return BAD_VALUE;
        }
        if (rank >= book.pile.length()) {
            return NONE;
        }
        int leaf = book.pile.at(rank);
        if (what == 0) {
            return leaf;
        }
        if (rank == book.pile.length() - 1) {
            return NONE;
        }
        return book.thereAhead(book.pile.at(rank + 1)) - book.thereAhead(leaf + 1);
    }

    public int sheets(int fold) {
        if (fold != 2 && fold != 4 && fold != 8 && fold != 12) {
            return BAD_VALUE;
        }
        int sheets = 0;
        for (int quire = 0; quire < book.quires(); quire++) {
            sheets += (book.sizes.at(quire) + fold - 1) / fold;
        }
        return sheets;
    }

    public int formula(int index) {
        if (index < 0) {
            return BAD_VALUE;
        }
        writer.write(book);
        return index < writer.length() ? writer.characterAt(index) : NONE;
    }

    public int count(int what) {
        switch (what) {
            case 0:
                return book.quires();
            case 1:
                return book.leaves();
            case 2:
                return book.leaves() - book.leavesThere();
            case 3:
                return book.signedLeaves();
            case 4:
                return book.alphabet.letters();
            case 5:
                return book.starredQuires();
            case 6:
                return Lapses.number(book);
            case 7:
                writer.write(book);
                return writer.length();
            case 8:
                writer.write(book);
                return writer.entries();
            case 9:
                return book.pile.length();
            case 10:
                return book.signing;
            case 11:
                return history.states();
            case 12:
                return text.length();
            default:
                return BAD_VALUE;
        }
    }

    // ---- helpers of the calls above

    private static boolean isQuireSize(int leaves) {
        return leaves >= 1 && leaves <= MOST_LEAVES;
    }

    private int quiresOfText() {
        int quires = 0;
        for (int entry = 0; entry < text.entries(); entry++) {
            int first = text.firstSign(entry);
            int last = text.lastSign(entry);
            // Both ends stand in the text, so neither of them is left out.
            quires += first == last ? 1 : book.alphabet.signsBetween(first, last) + 2;
        }
        return quires;
    }

    private void addEntry(int entry) {
        int last = text.lastSign(entry);
        int leaves = text.number(entry);
        book.addQuire(book.quires(), text.firstSign(entry), leaves);
        for (int sign = text.firstSign(entry) + 1; sign <= last; sign++) {
            if (book.alphabet.has(Sign.letter(sign))) {
                book.addQuire(book.quires(), sign, leaves);
            }
        }
    }

    private boolean findLeavesOfText() {
        found.empty();
        for (int entry = 0; entry < text.entries(); entry++) {
            int leaf = book.leafSigned(text.firstSign(entry), text.number(entry));
            if (leaf == Book.NO_LEAF) {
                return false;
            }
            found.add(leaf);
        }
        return true;
    }

    private boolean allFoundThereOnce() {
        for (int i = 0; i < found.length(); i++) {
            int leaf = found.at(i);
            if (book.isLost(leaf) || found.firstIndexOf(leaf) < i) {
                return false;
            }
        }
        return true;
    }

    private int leafHangingWith(int leaf) {
        int quire = book.quireOf(leaf);
        int number = book.numberOf(leaf);
        int other = book.sizes.at(quire) + 1 - number;
        return other == number ? NONE : book.firstLeaf(quire) + other - 1;
    }

    /** A row of numbers that never grows behind its room; what is not in it is answered by OUTSIDE. */
    private static final class Row {
        static final int OUTSIDE = -1;

        private final int[] cells;
        private int length;

        Row(int room) {
            cells = new int[Math.max(room, 0)];
        }

        int length() {
            return length;
        }

        int at(int index) {
            return index >= 0 && index < length && index < cells.length ? cells[index] : OUTSIDE;
        }

        int firstIndexOf(int value) {
            for (int i = 0; i < length; i++) {
                if (at(i) == value) {
                    return i;
                }
            }
            return length;
        }

        void set(int index, int value) {
            if (index >= 0 && index < length && index < cells.length) {
                cells[index] = value;
            }
        }

        void add(int value) {
            addAt(length, value);
        }

        void addAt(int index, int value) {
            if (index < 0 || index > length || length >= cells.length) {
                return;
            }
            length++;
            for (int i = length - 1; i > index; i--) {
                set(i, at(i - 1));
            }
            set(index, value);
        }

        void drop(int index) {
            if (index < 0 || index >= length) {
                return;
            }
            for (int i = index; i < length - 1; i++) {
                set(i, at(i + 1));
            }
            length--;
        }

        void empty() {
            length = 0;
        }

        void become(Row other) {
            length = Math.min(other.length, cells.length);
            for (int i = 0; i < length; i++) {
                set(i, other.at(i));
            }
        }
    }

    /**
     * A sign is a number: first the signs of letters in their order, A to Z, Aa to Zz, Aaa to Zzz,
     * and behind them those of one to five stars.
     */
    private static final class Sign {
        static final int NO_SIGN = -1;
        static final int LETTERS = 26;
        static final int MOST_TIMES = 3;
        static final int MOST_STARS = 5;
        static final int SIGNS_OF_LETTERS = LETTERS * MOST_TIMES;

        private Sign() {
        }

        static int ofLetters(int letter, int times) {
            return (times - 1) * LETTERS + letter;
        }

        static int ofStars(int stars) {
            return SIGNS_OF_LETTERS + stars - 1;
        }

        static boolean isStarred(int sign) {
            return sign >= SIGNS_OF_LETTERS;
        }

        static int letter(int sign) {
            return sign % LETTERS;
        }

        /** How many letters or stars the sign has. */
        static int times(int sign) {
            return isStarred(sign) ? sign - SIGNS_OF_LETTERS + 1 : sign / LETTERS + 1;
        }
    }

    /** The letters, 0 to 25, and which of them are left out. */
    private static final class Alphabet {
        static final int NONE_OUT = 0;
        static final int OUT_AT_FIRST = 1 << 'J' - 'A' | 1 << 'V' - 'A' | 1 << 'W' - 'A';

        /** A bit for each letter that is left out. */
        private int out;

        Alphabet(int out) {
            this.out = out;
        }

        boolean has(int letter) {
            return letter >= 0 && letter < Sign.LETTERS && (out >> letter & 1) == 0;
        }

        int letters() {
            return Sign.LETTERS - Integer.bitCount(out);
        }

        void turn(int letter) {
            out ^= 1 << letter;
        }

        /** The next sign of letters; behind NO_SIGN the first one, and none behind stars. */
        int nextSign(int sign) {
            for (int next = sign + 1; next < Sign.SIGNS_OF_LETTERS; next++) {
                if (has(Sign.letter(next))) {
                    return next;
                }
            }
            return Sign.NO_SIGN;
        }

        /** How many signs lie between both, neither of them counted. */
        int signsBetween(int earlier, int later) {
            int signs = 0;
            for (int sign = earlier + 1; sign < later && sign < Sign.SIGNS_OF_LETTERS; sign++) {
                if (has(Sign.letter(sign))) {
                    signs++;
                }
            }
            return signs;
        }

        void become(Alphabet other) {
            out = other.out;
        }
    }

    /** A state: the alphabet, the signing, the quires with their leaves, and the pile. */
    private static final class Book {
        static final int NO_LEAF = -1;
        static final int SIGN_HALF = 0;
        static final int SIGN_ONE_MORE = 1;
        static final int SIGN_ALL = 2;

        private final Alphabet alphabet = new Alphabet(Alphabet.OUT_AT_FIRST);
        private int signing = SIGN_ONE_MORE;
        private final Row signs = new Row(MOST_QUIRES);
        private final Row sizes = new Row(MOST_QUIRES);
        /** For each quire a bit for each leaf that is lost, the lowest one for its first leaf. */
        private final Row lost = new Row(MOST_QUIRES);
        /** In the order of the book. */
        private final Row pile = new Row(MOST_PILED);

        void become(Book other) {
            alphabet.become(other.alphabet);
            signing = other.signing;
            signs.become(other.signs);
            sizes.become(other.sizes);
            lost.become(other.lost);
            pile.become(other.pile);
        }

        int quires() {
            return signs.length();
        }

        boolean hasQuire(int quire) {
            return quire >= 0 && quire < quires();
        }

        void addQuire(int quire, int sign, int leaves) {
            signs.addAt(quire, sign);
            sizes.addAt(quire, leaves);
            lost.addAt(quire, 0);
            pile.empty();
        }

        void dropQuire(int quire) {
            signs.drop(quire);
            sizes.drop(quire);
            lost.drop(quire);
            pile.empty();
        }

        int starredQuires() {
            int starred = 0;
            for (int quire = 0; quire < quires(); quire++) {
                if (Sign.isStarred(signs.at(quire))) {
                    starred++;
                }
            }
            return starred;
        }

        int sameAhead(int quire) {
            int same = 0;
            for (int ahead = 0; ahead < quire; ahead++) {
                if (signs.at(ahead) == signs.at(quire)) {
                    same++;
                }
            }
            return same;
        }

        /** The sign of letters that stands last ahead of a quire. */
        int lastLettersAhead(int quire) {
            for (int ahead = quire - 1; ahead >= 0; ahead--) {
                if (!Sign.isStarred(signs.at(ahead))) {
                    return signs.at(ahead);
                }
            }
            return Sign.NO_SIGN;
        }

        int firstLeaf(int quire) {
            int leaves = 0;
            for (int ahead = 0; ahead < quire; ahead++) {
                leaves += sizes.at(ahead);
            }
            return leaves;
        }

        int leaves() {
            return firstLeaf(quires());
        }

        boolean hasLeaf(int leaf) {
            return leaf >= 0 && leaf < leaves();
        }

        /** The quire of a leaf that the book has. */
        int quireOf(int leaf) {
            int quire = 0;
            int behind = sizes.at(0);
            while (quire < quires() - 1 && leaf >= behind) {
                quire++;
                behind += sizes.at(quire);
            }
            return quire;
        }

        /** The number of a leaf in its quire, from 1. */
        int numberOf(int leaf) {
            return leaf - firstLeaf(quireOf(leaf)) + 1;
        }

        int signedIn(int quire) {
            int size = sizes.at(quire);
            int half = (size + 1) / 2;
            switch (signing) {
                case SIGN_HALF:
                    return half;
                case SIGN_ONE_MORE:
                    return Math.min(half + 1, size);
                default:
                    return size;
            }
        }

        int signedLeaves() {
            int signed = 0;
            for (int quire = 0; quire < quires(); quire++) {
                signed += signedIn(quire);
            }
            return signed;
        }

        boolean isLost(int leaf) {
            return (lost.at(quireOf(leaf)) >> numberOf(leaf) - 1 & 1) == 1;
        }

        void turnLost(int leaf) {
            int quire = quireOf(leaf);
            lost.set(quire, lost.at(quire) ^ 1 << numberOf(leaf) - 1);
            pile.empty();
        }

        int thereIn(int quire) {
            return sizes.at(quire) - Integer.bitCount(lost.at(quire));
        }

        /** How many leaves with a smaller number than this are there. */
        int thereAhead(int leaf) {
            int there = 0;
            int first = 0;
            for (int quire = 0; quire < quires(); quire++) {
                int size = sizes.at(quire);
                int ahead = Math.min(size, Math.max(leaf - first, 0));
                there += ahead - Integer.bitCount(lost.at(quire) & (1 << ahead) - 1);
                first += size;
            }
            return there;
        }

        int leavesThere() {
            return thereAhead(leaves());
        }

        /** The first leaf with this number in a quire with this sign. */
        int leafSigned(int sign, int number) {
            for (int quire = 0; quire < quires(); quire++) {
                if (signs.at(quire) == sign && number <= sizes.at(quire)) {
                    return firstLeaf(quire) + number - 1;
                }
            }
            return NO_LEAF;
        }

        void addToPile(int leaf) {
            int rank = pile.length();
            while (rank > 0 && pile.at(rank - 1) > leaf) {
                rank--;
            }
            pile.addAt(rank, leaf);
        }
    }

    /** The latest states; their books are made once and used again. */
    private static final class History {
        private final Book[] books = new Book[MOST_STATES];
        private int states;

        History() {
            for (int i = 0; i < books.length; i++) {
                books[i] = new Book();
            }
        }

        int states() {
            return states;
        }

        void record(Book book) {
            if (states >= books.length) {
                dropOldest();
            }
            Book latest = bookAt(states);
            if (latest != null) {
                latest.become(book);
                states++;
            }
        }

        void takeBack(Book book) {
            Book latest = bookAt(states - 1);
            if (latest != null) {
                book.become(latest);
                states--;
            }
        }

        private Book bookAt(int index) {
            return index >= 0 && index < books.length ? books[index] : null;
        }

        /** The oldest book goes behind the others, where the next state is put into it. */
        private void dropOldest() {
            for (int i = 1; i < books.length; i++) {
                Book oldest = books[i - 1];
                books[i - 1] = books[i];
                books[i] = oldest;
            }
            states--;
        }
    }

    /** The text, and the entries that were read from it last. */
    private static final class Text {
        static final int NO_FAULT = -1;

        private final Row characters = new Row(MOST_CHARACTERS);
        private final Row firstSigns = new Row(MOST_ENTRIES);
        private final Row lastSigns = new Row(MOST_ENTRIES);
        private final Row numbers = new Row(MOST_ENTRIES);
        private final Alphabet allLetters = new Alphabet(Alphabet.NONE_OUT);

        /** Where is read; if anything is refused there, this is the fault. */
        private int at;

        int length() {
            return characters.length();
        }

        void add(char character) {
            characters.add(character);
        }

        void empty() {
            characters.empty();
        }

        int entries() {
            return numbers.length();
        }

        int firstSign(int entry) {
            return firstSigns.at(entry);
        }

        int lastSign(int entry) {
            return lastSigns.at(entry);
        }

        int number(int entry) {
            return numbers.at(entry);
        }

        int readAsFormula(Alphabet alphabet) {
            return readEntries(alphabet, true);
        }

        int readAsPile() {
            return readEntries(allLetters, false);
        }

        /** Answers the fault, or NO_FAULT. */
        private int readEntries(Alphabet alphabet, boolean withRanges) {
            firstSigns.empty();
            lastSigns.empty();
            numbers.empty();
            at = 0;
            for (int entry = 0; entry <= characters.length(); entry++) {
                if (!readEntry(alphabet, withRanges)) {
                    return at;
                }
                if (at == characters.length()) {
                    return NO_FAULT;
                }
                if (characters.at(at) != ',') {
                    return at;
                }
                at++;
            }
            return at;
        }

        private boolean readEntry(Alphabet alphabet, boolean withRanges) {
            int first = readSign(alphabet);
            if (first == Sign.NO_SIGN) {
                return false;
            }
            int last = first;
            if (withRanges && !Sign.isStarred(first) && characters.at(at) == '-') {
                at++;
                last = readLastSign(alphabet, first);
                if (last == Sign.NO_SIGN) {
                    return false;
                }
            }
            int number = readNumber();
            if (number == 0) {
                return false;
            }
            firstSigns.add(first);
            lastSigns.add(last);
            numbers.add(number);
            return true;
        }

        private int readSign(Alphabet alphabet) {
            return characters.at(at) == '*' ? readStars() : readLetters(alphabet);
        }

        private int readStars() {
            int stars = 0;
            while (stars < Sign.MOST_STARS && characters.at(at) == '*') {
                stars++;
                at++;
            }
            return Sign.ofStars(stars);
        }

        private int readLetters(Alphabet alphabet) {
            int letter = characters.at(at) - 'A';
            if (!alphabet.has(letter)) {
                return Sign.NO_SIGN;
            }
            at++;
            int times = 1;
            while (times < Sign.MOST_TIMES && characters.at(at) == 'a' + letter) {
                times++;
                at++;
            }
            return Sign.ofLetters(letter, times);
        }

        private int readLastSign(Alphabet alphabet, int first) {
            int last = readLetters(alphabet);
            if (last == Sign.NO_SIGN) {
                return Sign.NO_SIGN;
            }
            if (Sign.times(last) != Sign.times(first) || last < first) {
                // The fault of such a sign is its last character, which is read already.
                at--;
                return Sign.NO_SIGN;
            }
            return last;
        }

        /** Reads a number from 1 to 24, or answers 0. */
        private int readNumber() {
            int digit = digitAt(at);
            if (digit < 1) {
                return 0;
            }
            at++;
            int second = digitAt(at);
            if (second < 0 || digit * 10 + second > MOST_LEAVES) {
                return digit;
            }
            at++;
            return digit * 10 + second;
        }

        private int digitAt(int index) {
            int digit = characters.at(index) - '0';
            return digit >= 0 && digit <= 9 ? digit : -1;
        }
    }

    /** The lapses of a book; a lapse is known by its second quire. */
    private static final class Lapses {
        static final int NO_LAPSE = -1;
        static final int REPETITION = 0;
        static final int STEP_BACK = 1;
        static final int GAP = 2;
        static final int NO_QUIRE = -1;

        private Lapses() {
        }

        static int kind(Book book, int quire) {
            int sign = book.signs.at(quire);
            int ahead = book.lastLettersAhead(quire);
            if (Sign.isStarred(sign) || ahead == Sign.NO_SIGN) {
                return NO_LAPSE;
            }
            if (sign == book.alphabet.nextSign(ahead)) {
                return NO_LAPSE;
            }
            if (sign == ahead) {
                return REPETITION;
            }
            return sign < ahead ? STEP_BACK : GAP;
        }

        static int width(Book book, int quire) {
            if (kind(book, quire) != GAP) {
                return 0;
            }
            return book.alphabet.signsBetween(book.lastLettersAhead(quire), book.signs.at(quire));
        }

        static int number(Book book) {
            int lapses = 0;
            for (int quire = 0; quire < book.quires(); quire++) {
                if (kind(book, quire) != NO_LAPSE) {
                    lapses++;
                }
            }
            return lapses;
        }

        static int quireAt(Book book, int rank) {
            int lapses = 0;
            for (int quire = 0; quire < book.quires(); quire++) {
                if (kind(book, quire) != NO_LAPSE) {
                    if (lapses == rank) {
                        return quire;
                    }
                    lapses++;
                }
            }
            return NO_QUIRE;
        }
    }

    /** Writes the formula of a book. */
    private static final class Writer {
        private final Row characters = new Row(LONGEST_FORMULA);
        private int entries;

        int length() {
            return characters.length();
        }

        int characterAt(int index) {
            return characters.at(index);
        }

        int entries() {
            return entries;
        }

        void write(Book book) {
            characters.empty();
            entries = 0;
            for (int quire = 0; quire < book.quires(); quire++) {
                boolean ends = !goesOn(book, quire + 1);
                if (!goesOn(book, quire)) {
                    beginEntry(book.signs.at(quire));
                } else if (ends) {
                    characters.add('-');
                    writeSign(book.signs.at(quire));
                }
                if (ends) {
                    writeNumber(book.sizes.at(quire));
                }
            }
        }

        /** Whether a quire is of the same entry as the one ahead of it. */
        private static boolean goesOn(Book book, int quire) {
            if (quire < 1 || quire >= book.quires()) {
                return false;
            }
            int sign = book.signs.at(quire);
            int ahead = book.signs.at(quire - 1);
            return sign == book.alphabet.nextSign(ahead)
                    && Sign.times(sign) == Sign.times(ahead)
                    && book.sizes.at(quire) == book.sizes.at(quire - 1);
        }

        private void beginEntry(int sign) {
            if (entries > 0) {
                characters.add(',');
            }
            entries++;
            writeSign(sign);
        }

        private void writeSign(int sign) {
            boolean starred = Sign.isStarred(sign);
            characters.add(starred ? '*' : 'A' + Sign.letter(sign));
            for (int i = 1; i < Sign.times(sign); i++) {
                characters.add(starred ? '*' : 'a' + Sign.letter(sign));
            }
        }

        private void writeNumber(int number) {
            if (number >= 10) {
                characters.add('0' + number / 10);
            }
            characters.add('0' + number % 10);
        }
    }
}
