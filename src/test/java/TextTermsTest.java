/** The terms of the document, sentence by sentence, at their bounds: texts and piles. */
final class TextTermsTest {
    private static final Check CHECK = new Check("TextTermsTest");
    private static final String TWENTY = "A1,A1,A1,A1,A1,A1,A1,A1,A1,A1,A1,A1,A1,A1,A1,A1,A1,A1,A1,A1";
    private static final String TWELVE = "A1,A2,A3,A4,A5,A6,A7,A8,A9,A10,A11,A12";

    public static void main(String[] args) {
        sixtyCharacters();
        lettersAndStars();
        entriesOfAFormula();
        twoSigns();
        numbersOfLeaves();
        fromTheOneToTheOther();
        lettersThatAreOut();
        signsOfAPile();
        signedOrNot();
        lettersThatAreOutInAPile();
        oneTooMany();
        firstCharacterThatIsNotAllowed();
        endsTooEarly();
        secondSigns();
        twelveLeaves();
        CHECK.end();
    }

    /** Reads a text on a new object: as a formula it has this fault. */
    private static void formulaFault(String text, int fault) {
        CHECK.due("the formula '" + text + "'", Check.readFormula(new QuireSigns(), text), -100 - fault);
    }

    private static void pileFault(String text, int fault) {
        QuireSigns book = new QuireSigns();
        CHECK.due("the pile '" + text + "'", Check.readPile(book, text), -100 - fault);
        CHECK.due("the sign '" + text + "'", book.find(), -100 - fault);
    }

    private static void fault(String text, int fault) {
        formulaFault(text, fault);
        pileFault(text, fault);
    }

    private static void quires(String text, int quires) {
        CHECK.due("the formula '" + text + "'", Check.readFormula(new QuireSigns(), text), quires);
    }

    /** A pile without a fault of leaves that an empty book doesn't have. */
    private static void noPileFault(String text) {
        CHECK.due("the pile '" + text + "'", Check.readPile(new QuireSigns(), text), QuireSigns.UNKNOWN);
    }

    private static void sixtyCharacters() {
        CHECK.sentence("There is a text of at most 60 characters, empty at first.");
        QuireSigns book = new QuireSigns();
        CHECK.due("length at first", book.count(12), 0);
        CHECK.due("as a formula", book.readFormula(), -100);
        CHECK.due("as a pile", book.readPile(), -100);
        CHECK.due("as a sign", book.find(), -100);
        CHECK.due("clearText()", book.clearText(), 0);
        for (int length = 1; length <= 60; length++) {
            CHECK.due("type", book.type('*'), length);
        }
        CHECK.due("the 61st", book.type('*'), QuireSigns.FULL);
        CHECK.due("length", book.count(12), 60);
        CHECK.due("clearText()", book.clearText(), 60);
        CHECK.due("the first one again", book.type('*'), 1);
        QuireSigns last = new QuireSigns();
        CHECK.due("the 60th is read", Check.readFormula(last, TWENTY + "7"), 20);
        CHECK.due("its leaves", last.quire(19, 2), 17);
        CHECK.due("the 61st isn't", Check.readFormula(last, TWENTY + "7?"), 40);
    }

    private static void lettersAndStars() {
        CHECK.sentence("A sign of letters is written as a capital letter,"
                + " and 0 to 2 times the same letter as a small one; one of stars as its stars.");
        for (char letter = 'A'; letter <= 'Z'; letter++) {
            if (letter != 'J' && letter != 'V' && letter != 'W') {
                String small = String.valueOf(Character.toLowerCase(letter));
                QuireSigns book = Check.bookOf(letter + "1," + letter + small + "2," + letter + small + small + "3");
                for (int quire = 0; quire < 3; quire++) {
                    CHECK.due("the letter", book.quire(quire, 1), letter);
                    CHECK.due("how often " + letter + " stands", book.quire(quire, 0), quire + 1);
                }
            }
        }
        char[] none = {0, '@', '[', '`', '{', 'a', 'z', '+', ')', 'A' + 128, 'A' + 256, 65535};
        for (char character : none) {
            fault(character + "1", 0);
            fault("B" + character + "1", 1);
        }
        fault("1", 0);
        fault("-A1", 0);
        fault("A1,1", 3);
        fault("A1,-B1", 3);
        fault("AA1", 1);
        fault("Ab1", 1);
        fault("AaA1", 2);
        fault("Aab1", 2);
        fault("*a1", 1);
        fault("*A1", 1);
        fault("A*1", 1);
    }

    private static void entriesOfAFormula() {
        CHECK.sentence("A formula is one or more entries with \",\" between two");
        formulaFault("", 0);
        formulaFault(",", 0);
        formulaFault(",A1", 0);
        formulaFault("A1,", 3);
        formulaFault("A1,,A1", 3);
        formulaFault("A1.A1", 2);
        formulaFault("A1 A1", 2);
        formulaFault("A1A1", 2);
        formulaFault("A1*1", 2);
        formulaFault("A1-B1", 2);
        formulaFault("A12,A12A12", 7);
        quires("A1", 1);
        quires("A1,A1", 2);
        quires(TWENTY, 20);
    }

    private static void twoSigns() {
        CHECK.sentence("or two signs of letters with \"-\" between"
                + " (the letters stand equally often, the second one is not earlier)");
        quires("A-A1", 1);
        quires("A-B1", 2);
        quires("A-Z1", 23);
        quires("Zz-Zz1", 1);
        quires("Aaa-Bbb1", 2);
        formulaFault("B-A1", 2);
        formulaFault("Z-Y1", 2);
        formulaFault("A-Aa1", 3);
        formulaFault("Aa-A1", 3);
        formulaFault("Aa-Aaa1", 5);
        formulaFault("Aaa-Aa1", 5);
        formulaFault("Z-Aa1", 3);
        formulaFault("*-*1", 1);
        formulaFault("*-A1", 1);
        formulaFault("A-*1", 2);
        formulaFault("A--A1", 2);
        formulaFault("A-A-A1", 3);
        formulaFault("A1-A1", 2);
    }

    private static void numbersOfLeaves() {
        CHECK.sentence("and a number of leaves (1 to 24, without a zero in front)");
        for (int leaves = 1; leaves <= 24; leaves++) {
            CHECK.due("leaves", Check.bookOf("A" + leaves).quire(0, 2), leaves);
            CHECK.due("leaves", Check.bookOf("B1,A-B" + leaves + ",A1").quire(2, 2), leaves);
        }
        formulaFault("A0", 1);
        formulaFault("A00", 1);
        formulaFault("A01", 1);
        formulaFault("A010", 1);
        for (int more = 25; more <= 99; more++) {
            formulaFault("A" + more, 2);
        }
        formulaFault("A100", 3);
        formulaFault("A110", 3);
        formulaFault("A240", 3);
        formulaFault("A,", 1);
        formulaFault("A-B,", 3);
        formulaFault("A/", 1);
        formulaFault("A:", 1);
        formulaFault("A1/", 2);
        formulaFault("A1:", 2);
        formulaFault("A" + (char) ('1' + 256), 1);
        formulaFault("A1" + (char) ('1' + 256), 2);
        formulaFault("A-1", 2);
    }

    private static void fromTheOneToTheOther() {
        CHECK.sentence("Of two signs are meant all from the one to the other, without those whose letters are left out");
        QuireSigns book = Check.bookOf("Hh-Ll7");
        char[] letters = {'H', 'I', 'K', 'L'};
        CHECK.due("quires", book.count(0), letters.length);
        for (int quire = 0; quire < letters.length; quire++) {
            CHECK.due("the letter", book.quire(quire, 1), letters[quire]);
            CHECK.due("how often it stands", book.quire(quire, 0), 2);
            CHECK.due("its leaves", book.quire(quire, 2), 7);
        }
        QuireSigns ends = new QuireSigns();
        for (char letter = 'B'; letter <= 'Y'; letter++) {
            ends.leaveOut(letter, true);
        }
        CHECK.due("A and Z alone", Check.readFormula(ends, "A-Z1"), 2);
        CHECK.due("Z behind A", ends.quire(1, 1), 'Z');
    }

    private static void lettersThatAreOut() {
        CHECK.sentence("a letter that is left out cannot stand in a formula");
        formulaFault("J1", 0);
        formulaFault("Jj1", 0);
        formulaFault("I-J1", 2);
        formulaFault("J-K1", 0);
        formulaFault("K-J1", 2);
        formulaFault("A1,W", 3);
        QuireSigns book = Check.bookOf("A1");
        book.leaveOut('A', true);
        CHECK.due("A, of which a quire is", Check.readFormula(book, "A1"), -100);
        book.leaveOut('A', false);
        CHECK.due("A again", book.readFormula(), 2);
        book.leaveOut('J', false);
        CHECK.due("J that is taken in", Check.readFormula(book, "J-K1"), 4);
    }

    private static void signsOfAPile() {
        CHECK.sentence("Signs of a pile are one or more with \",\" between two: a sign and a number from 1 to 24");
        pileFault("", 0);
        pileFault(",", 0);
        pileFault(",A1", 0);
        pileFault("A1,", 3);
        pileFault("A1,,A1", 3);
        pileFault("A1.A1", 2);
        pileFault("A1A1", 2);
        pileFault("A-A1", 1);
        pileFault("A-B1", 1);
        pileFault("A0", 1);
        pileFault("A25", 2);
        pileFault("A99", 2);
        pileFault("A100", 3);
        pileFault("A240", 3);
        pileFault("A,", 1);
        for (int number = 1; number <= 24; number++) {
            noPileFault("A" + number);
            noPileFault("*" + number + ",Aaa" + number);
        }
        noPileFault(TWENTY);
    }

    private static void signedOrNot() {
        CHECK.sentence("a leaf in a quire (signed or not)");
        QuireSigns book = Check.bookOf("A24,*1");
        book.setSigning(0);
        CHECK.due("the last signed one", Check.find(book, "A12"), 11);
        CHECK.due("the first that isn't", Check.find(book, "A13"), 12);
        CHECK.due("the last one", Check.find(book, "A24"), 23);
        CHECK.due("piled", Check.readPile(book, "A12,A13,A24"), 3);
        CHECK.due("no second one", Check.find(book, "*2"), QuireSigns.NONE);
    }

    private static void lettersThatAreOutInAPile() {
        CHECK.sentence("letters that are left out can stand there");
        noPileFault("J1,V1,W1,Jjj1");
        QuireSigns book = Check.bookOf("A1,B1");
        book.leaveOut('B', true);
        CHECK.due("found", Check.find(book, "B1"), 1);
        CHECK.due("piled", book.readPile(), 1);
        CHECK.due("no leaf of J", Check.find(book, "J1"), QuireSigns.NONE);
    }

    private static void oneTooMany() {
        CHECK.sentence("A small letter, or a star, that would be one too many is not allowed.");
        fault("Aaaa1", 3);
        fault("Aaaa", 3);
        fault("******1", 5);
        fault("******", 5);
        fault("A1,Zzzz1", 6);
        fault("*1,******1", 8);
        formulaFault("Aaa-Bbbb1", 7);
        formulaFault("Aaa-Aaaa", 7);
        quires("Aaa1,*****1", 2);
        noPileFault("Aaa1,*****1");
    }

    private static void firstCharacterThatIsNotAllowed() {
        CHECK.sentence("is the index, from 0, of the first character that is not allowed at its place");
        fault("?", 0);
        fault("??", 0);
        fault("A??", 1);
        fault("A1??", 2);
        fault("A1,?,?", 3);
        fault(TWENTY + "?", 59);
        fault(TWENTY.substring(0, 57) + "?A1", 57);
        formulaFault("A-B?", 3);
        formulaFault("J1,J1", 0);
    }

    private static void endsTooEarly() {
        CHECK.sentence("or the length of the text if it ends too early (the empty text does)");
        String formula = "A1,Aaa-Bbb12,*****3";
        int[] early = {0, 1, 3, 4, 5, 6, 7, 10, 13, 14, 15, 16, 17, 18};
        for (int length : early) {
            // The lengths 8 and 9 are left to secondSigns(): "B" and "Bb" are not as told behind "Aaa-".
            formulaFault(formula.substring(0, length), length);
        }
        quires(formula.substring(0, 2), 1);
        quires(formula.substring(0, 11), 3);
        quires(formula.substring(0, 12), 3);
        quires(formula, 4);
        String pile = "A1,Aaa12,*****3";
        int[] earlyPile = {0, 1, 3, 4, 5, 6, 9, 10, 11, 12, 13, 14};
        for (int length : earlyPile) {
            pileFault(pile.substring(0, length), length);
        }
        noPileFault(pile.substring(0, 7));
        fault(TWENTY + ",", 60);
        fault(TWENTY.substring(0, 56) + ",**", 59);
        fault(TWENTY.substring(0, 56) + ",***", 60);
    }

    private static void secondSigns() {
        CHECK.sentence("A second sign that is not as told is a fault at its last character,"
                + " also if the text just ends behind it.");
        String[] second = {"B-A", "A-Aa", "A-Aaa", "Aa-B", "Aa-Bbb", "Aaa-B", "Aaa-Bb", "Bb-Aa", "Bbb-Aaa", "C-Aaa"};
        for (String text : second) {
            formulaFault(text, text.length() - 1);
            formulaFault(text + "1", text.length() - 1);
            formulaFault(text + "?", text.length() - 1);
            formulaFault(text + "-A1", text.length() - 1);
            formulaFault("A1," + text, text.length() + 2);
        }
    }

    private static void twelveLeaves() {
        CHECK.sentence("There is a pile of at most 12 leaves, empty at first: numbers of leaves of the book.");
        QuireSigns book = Check.bookOf("*3,A24");
        CHECK.due("leaves at first", book.count(9), 0);
        CHECK.due("none at first", book.piled(0, 0), QuireSigns.NONE);
        CHECK.due("eleven", Check.readPile(book, TWELVE.substring(0, 34)), 11);
        CHECK.due("thirteen", Check.readPile(book, TWELVE + ",A13"), QuireSigns.FULL);
        CHECK.due("the eleven stay", book.count(9), 11);
        CHECK.due("twelve", Check.readPile(book, TWELVE), 12);
        CHECK.due("leaves", book.count(9), 12);
        for (int rank = 0; rank < 12; rank++) {
            CHECK.due("its number", book.piled(rank, 0), 3 + rank);
        }
        CHECK.due("none behind them", book.piled(12, 0), QuireSigns.NONE);
    }
}
