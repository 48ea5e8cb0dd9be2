/** Promises 1 to 3: a new object, leaveOut, setSigning. */
final class AlphabetTest {
    private static final Check CHECK = new Check("AlphabetTest");

    public static void main(String[] args) {
        promise1NewObject();
        promise2Letters();
        promise2OnlyOneLetter();
        promise2QuiresStay();
        promise3Signing();
        CHECK.end();
    }

    private static void promise1NewObject() {
        QuireSigns book = new QuireSigns();
        int[] counts = {0, 0, 0, 0, 23, 0, 0, 0, 0, 0, 1, 0, 0};
        for (int what = 0; what < counts.length; what++) {
            CHECK.due("1: count(" + what + ")", book.count(what), counts[what]);
        }
        CHECK.due("1: undo()", book.undo(), QuireSigns.NONE);
        CHECK.due("1: restore()", book.restore(), QuireSigns.NONE);
        CHECK.due("1: leaf(0, 0)", book.leaf(0, 0), QuireSigns.UNKNOWN);
        for (char letter = 'A'; letter <= 'Z'; letter++) {
            boolean out = letter == 'J' || letter == 'V' || letter == 'W';
            CHECK.due("1: leaveOut " + letter, new QuireSigns().leaveOut(letter, out), QuireSigns.NONE);
        }
        new QuireSigns().signNext(4);
        CHECK.due("1: two books share nothing", book.count(0), 0);
    }

    private static void promise2Letters() {
        QuireSigns book = new QuireSigns();
        CHECK.due("2: A out", book.leaveOut('A', true), 22);
        CHECK.due("2: A out again", book.leaveOut('A', true), QuireSigns.NONE);
        CHECK.due("2: J in", book.leaveOut('J', false), 23);
        CHECK.due("2: J in again", book.leaveOut('J', false), QuireSigns.NONE);
        CHECK.due("2: Z out", book.leaveOut('Z', true), 22);
        char[] none = {'@', '[', 'a', 'z', '*', (char) 0, (char) 255, (char) 321, (char) 65535};
        for (char letter : none) {
            CHECK.due("2: " + (int) letter, book.leaveOut(letter, true), QuireSigns.UNKNOWN);
            CHECK.due("2: " + (int) letter, book.leaveOut(letter, false), QuireSigns.UNKNOWN);
        }
        CHECK.due("2: letters", book.count(4), 22);
        CHECK.due("2: three acts", book.count(11), 3);
        book.signNext(2);
        CHECK.due("2: the first letter is B", book.quire(0, 1), 'B');
    }

    private static void promise2OnlyOneLetter() {
        QuireSigns book = new QuireSigns();
        for (char letter = 'A'; letter <= 'Z'; letter++) {
            if (letter != 'M') {
                book.leaveOut(letter, true);
            }
        }
        CHECK.due("2: one letter", book.count(4), 1);
        CHECK.due("2: the last one", book.leaveOut('M', true), QuireSigns.NOT_POSSIBLE);
        CHECK.due("2: one that is out", book.leaveOut('A', true), QuireSigns.NONE);
        CHECK.due("2: still there", book.count(4), 1);
        CHECK.due("2: M", book.signNext(1), 0);
        CHECK.due("2: Mm", book.signNext(1), 1);
        CHECK.due("2: Mmm", book.signNext(1), 2);
        CHECK.due("2: none", book.signNext(1), QuireSigns.NOT_POSSIBLE);
        CHECK.due("2: A in", book.leaveOut('A', false), 2);
        CHECK.due("2: M out", book.leaveOut('M', true), 1);
    }

    private static void promise2QuiresStay() {
        QuireSigns book = Check.bookOf("A-C4");
        Check.readPile(book, "B2");
        CHECK.due("2: B out", book.leaveOut('B', true), 22);
        CHECK.due("2: quires", book.count(0), 3);
        CHECK.due("2: letter", book.quire(1, 1), 'B');
        CHECK.due("2: the pile stays", book.count(9), 1);
        CHECK.due("2: A, B is a gap then", book.lapse(0, 1), 2);
        CHECK.due("2: B, C is none", book.count(6), 1);
        CHECK.formula(book, "A4,B-C4");
    }

    private static void promise3Signing() {
        QuireSigns book = Check.bookOf("A1,B2,C3,D4,E5,F24");
        CHECK.due("3: 1 at first", book.setSigning(1), QuireSigns.NONE);
        CHECK.due("3: first", book.count(3), 1 + 2 + 3 + 3 + 4 + 13);
        CHECK.due("3: 0", book.setSigning(0), 1 + 1 + 2 + 2 + 3 + 12);
        CHECK.due("3: 0 again", book.setSigning(0), QuireSigns.NONE);
        CHECK.due("3: 2", book.setSigning(2), 39);
        CHECK.due("3: signing", book.count(10), 2);
        CHECK.due("3: 1 again", book.setSigning(1), 26);
        CHECK.due("3: -1", book.setSigning(-1), QuireSigns.BAD_VALUE);
        CHECK.due("3: 3", book.setSigning(3), QuireSigns.BAD_VALUE);
        CHECK.due("3: the least", book.setSigning(Integer.MIN_VALUE), QuireSigns.BAD_VALUE);
        CHECK.due("3: the greatest", book.setSigning(Integer.MAX_VALUE), QuireSigns.BAD_VALUE);
        CHECK.due("3: acts", book.count(11), 4);
        book.lose(0, true);
        CHECK.due("3: lost ones are signed", book.setSigning(2), 39);
        Check.readPile(book, "B1");
        book.setSigning(0);
        CHECK.due("3: the pile stays", book.count(9), 1);
        CHECK.due("3: an empty book", new QuireSigns().setSigning(2), 0);
    }
}
