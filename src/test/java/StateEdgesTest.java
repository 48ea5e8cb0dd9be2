/** The words of promises 9 to 14, one after the other, at the bounds that they name. */
final class StateEdgesTest {
    private static final Check CHECK = new Check("StateEdgesTest");

    public static void main(String[] args) {
        promise9Text();
        promise9FirstLeaf();
        promise9Faults();
        promise9NoLeaf();
        promise9LostOrTwice();
        promise9Twelve();
        promise10Type();
        promise10Full();
        promise11ClearText();
        promise12Latest();
        promise12Undo();
        promise13Keep();
        promise13Number();
        promise14Stays();
        promise14Restore();
        CHECK.end();
    }

    private static QuireSigns stars(int quires, int leaves) {
        QuireSigns book = new QuireSigns();
        for (int quire = 0; quire < quires; quire++) {
            book.insert(quire, 1, leaves);
        }
        return book;
    }

    private static void promise9Text() {
        CHECK.sentence("Makes the pile that of the text, signs of a pile, which stays");
        QuireSigns book = Check.bookOf("A4");
        CHECK.due("one", Check.readPile(book, "A4"), 1);
        CHECK.due("the text stays", book.find(), 3);
        CHECK.due("again", book.readPile(), 1);
        CHECK.due("two in its place", Check.readPile(book, "A1,A2"), 2);
        CHECK.due("the first", book.piled(0, 0), 0);
        CHECK.due("the second", book.piled(1, 0), 1);
        CHECK.due("A4 is no more in it", book.piled(2, 0), QuireSigns.NONE);
        CHECK.due("it can be piled again", Check.readPile(book, "A1"), 1);
    }

    private static void promise9FirstLeaf() {
        CHECK.sentence("for each sign the first leaf of the book that has it.");
        QuireSigns book = Check.bookOf("*1,A2,A4,*3,A4");
        CHECK.due("five signs", Check.readPile(book, "A4,*3,A1,A3,*1"), 5);
        int[] leaves = {0, 1, 5, 6, 9};
        for (int rank = 0; rank < leaves.length; rank++) {
            CHECK.due("leaf " + rank, book.piled(rank, 0), leaves[rank]);
        }
        CHECK.due("the text stays", book.count(12), 14);
        CHECK.due("the last leaf of the first A", Check.readPile(book, "A2"), 1);
        CHECK.due("it", book.piled(0, 0), 2);
        CHECK.due("the pile before is gone", book.piled(1, 0), QuireSigns.NONE);
    }

    private static void promise9Faults() {
        CHECK.sentence("-100 minus the fault of the text as a pile if it has one (which is an error)");
        QuireSigns book = Check.bookOf("A4");
        Check.readPile(book, "A2");
        CHECK.due("the first fault that can be", Check.readPile(book, ""), -100);
        CHECK.due("the second", Check.readPile(book, "A"), -101);
        CHECK.due("the last", Check.readPile(book, "A1,".repeat(20)), -160);
        CHECK.due("the last but one", Check.readPile(book, "A1,".repeat(19) + "A1?"), -159);
        CHECK.due("the pile stays", book.piled(0, 0), 1);
        CHECK.due("no state is recorded", book.count(11), 2);
        CHECK.due("the text stays", book.count(12), 60);
    }

    private static void promise9NoLeaf() {
        CHECK.sentence("UNKNOWN if any sign is of no leaf of the book");
        QuireSigns book = Check.bookOf("A2,A3,**24");
        CHECK.due("an empty book", Check.readPile(new QuireSigns(), "A1"), QuireSigns.UNKNOWN);
        String[] signs = {"A4", "B1", "Aa1", "*1", "***1", "A1,A4", "A4,A1", "A1,A2,*24,**24"};
        for (String text : signs) {
            CHECK.due(text, Check.readPile(book, text), QuireSigns.UNKNOWN);
        }
        CHECK.due("the last ones of both", Check.readPile(book, "A3,**24"), 2);
    }

    private static void promise9LostOrTwice() {
        CHECK.sentence("NOT_POSSIBLE if any leaf is lost, or told twice");
        QuireSigns book = Check.bookOf("A2,A3");
        book.lose(0, true);
        String[] texts = {"A1", "A1,A2", "A2,A1", "A2,A2", "A2,A3,A2", "A3,A2,A2"};
        for (String text : texts) {
            CHECK.due(text, Check.readPile(book, text), QuireSigns.NOT_POSSIBLE);
        }
        CHECK.due("those that are there", Check.readPile(book, "A2,A3"), 2);
        book.lose(0, false);
        CHECK.due("the found one", Check.readPile(book, "A1,A2"), 2);
    }

    private static void promise9Twelve() {
        CHECK.sentence("FULL if there would be more than 12.");
        String signs = "A1,A2,A3,A4,A5,A6,A7,A8,A9,B1,B2,B3,B4,B5,B6,B7,B8,B9,C1,C2";
        for (int leaves = 1; leaves <= 20; leaves++) {
            QuireSigns book = Check.bookOf("A-C9");
            boolean room = leaves <= 12;
            int told = Check.readPile(book, signs.substring(0, 3 * leaves - 1));
            CHECK.due("a pile of " + leaves, told, room ? leaves : QuireSigns.FULL);
            CHECK.due("its leaves then", book.count(9), room ? leaves : 0);
        }
    }

    private static void promise10Type() {
        CHECK.sentence("`character`: any character");
        int character = 0;
        while (character < 65536) {
            QuireSigns book = new QuireSigns();
            for (int length = 1; length <= 60; length++) {
                CHECK.due("type", book.type((char) character), length);
                character += 37;
            }
            CHECK.due("behind 60", book.type((char) character), QuireSigns.FULL);
        }
        QuireSigns faults = new QuireSigns();
        CHECK.due("the first character of all", faults.type((char) 0), 1);
        CHECK.due("is not allowed", faults.readFormula(), -100);
        faults.clearText();
        CHECK.due("the last character of all", faults.type((char) 65535), 1);
        CHECK.due("is not allowed", faults.readFormula(), -100);
    }

    private static void promise10Full() {
        CHECK.sentence("Returns the length of the text then; FULL if it has 60 characters.");
        QuireSigns book = new QuireSigns();
        String text = "A1,".repeat(19) + "A12";
        for (int length = 1; length <= 60; length++) {
            CHECK.due("the length", book.type(text.charAt(length - 1)), length);
        }
        CHECK.due("behind 60", book.type('4'), QuireSigns.FULL);
        CHECK.due("again", book.type(','), QuireSigns.FULL);
        CHECK.due("the text is the first 60", book.readFormula(), 20);
        CHECK.due("its last number", book.quire(19, 2), 12);
        CHECK.due("they are cleared", book.clearText(), 60);
        CHECK.due("room again", book.type('4'), 1);
    }

    private static void promise11ClearText() {
        CHECK.sentence("Returns the length that it had.");
        QuireSigns book = new QuireSigns();
        CHECK.due("of none", book.clearText(), 0);
        book.type(',');
        CHECK.due("of one", book.clearText(), 1);
        for (int i = 0; i < 70; i++) {
            book.type('A');
        }
        CHECK.due("of sixty", book.clearText(), 60);
        CHECK.due("empty", book.count(12), 0);
        CHECK.due("as the empty text", book.readFormula(), -100);
        book.type('B');
        CHECK.due("nothing of before is behind it", book.readFormula(), -101);
    }

    private static void promise12Latest() {
        CHECK.sentence("Removes and restores the latest state of the history.");
        QuireSigns book = Check.bookOf("A4");
        book.leaveOut('B', true);
        book.lose(0, true);
        book.signNext(1);
        book.undo();
        CHECK.due("no second quire", book.count(0), 1);
        CHECK.due("the leaf is lost still", book.leaf(0, 4), 1);
        book.undo();
        CHECK.due("it is there", book.leaf(0, 4), 0);
        CHECK.due("B is out still", book.count(4), 22);
        book.undo();
        CHECK.due("B is in", book.count(4), 23);
        CHECK.due("A is there still", book.count(0), 1);
        book.undo();
        CHECK.due("the empty book", book.count(0), 0);
        CHECK.due("no more", book.undo(), QuireSigns.NONE);
    }

    private static void promise12Undo() {
        CHECK.sentence("Returns the number of states that are left; NONE if the history is empty.");
        QuireSigns book = new QuireSigns();
        CHECK.due("of none", book.undo(), QuireSigns.NONE);
        book.leaveOut('J', false);
        CHECK.due("of one", book.undo(), 0);
        CHECK.due("of none again", book.undo(), QuireSigns.NONE);
        for (int signing = 0; signing < 9; signing++) {
            book.setSigning(signing % 3);
        }
        for (int left = 3; left >= 0; left--) {
            CHECK.due("of " + (left + 1), book.undo(), left);
            CHECK.due("the signing then", book.count(10), (left + 4) % 3);
        }
        CHECK.due("of none at last", book.undo(), QuireSigns.NONE);
    }

    private static void promise13Keep() {
        CHECK.sentence("Takes a snapshot of the state, in place of the one that was.");
        CHECK.due("of an empty book", new QuireSigns().keep(), 0);
        QuireSigns book = stars(40, 1);
        CHECK.due("of a full book", book.keep(), 40);
        for (int quire = 39; quire > 1; quire--) {
            book.remove(quire);
        }
        CHECK.due("of two quires", book.keep(), 2);
        CHECK.due("of the same again", book.keep(), 2);
        book.remove(0);
        CHECK.due("the full one is gone", book.restore(), 2);
        CHECK.due("four states as before", book.count(11), 4);
    }

    private static void promise13Number() {
        CHECK.sentence("Returns the number of quires.");
        QuireSigns book = new QuireSigns();
        for (int quires = 0; quires < 40; quires++) {
            CHECK.due("of " + quires, book.keep(), quires);
            book.insert(0, 1, 1);
        }
        CHECK.due("of 40", book.keep(), 40);
    }

    private static void promise14Stays() {
        CHECK.sentence("Restores the state of the snapshot, which stays.");
        QuireSigns book = Check.bookOf("A4,B4");
        book.keep();
        for (int times = 0; times < 5; times++) {
            book.lose(times, true);
            book.setSigning(2);
            book.leaveOut('Z', true);
            book.remove(1);
            CHECK.due("both quires", book.restore(), 2);
            CHECK.due("no leaf is lost", book.count(2), 0);
            CHECK.due("the signing", book.count(10), 1);
            CHECK.due("the letters", book.count(4), 23);
        }
    }

    private static void promise14Restore() {
        CHECK.sentence("Returns the number of quires then; NONE if there is no snapshot.");
        QuireSigns book = stars(40, 1);
        CHECK.due("none", book.restore(), QuireSigns.NONE);
        CHECK.due("it changes nothing", book.count(0), 40);
        book.keep();
        book.remove(39);
        CHECK.due("forty", book.restore(), 40);
        CHECK.due("forty again", book.restore(), 40);
        CHECK.due("the undo of the second", book.undo(), 3);
        CHECK.due("forty still", book.count(0), 40);
        CHECK.due("the undo of the first", book.undo(), 2);
        CHECK.due("39", book.count(0), 39);
        QuireSigns empty = new QuireSigns();
        empty.keep();
        CHECK.due("an empty book of an empty one", empty.restore(), 0);
        CHECK.due("is an act", empty.count(11), 1);
        empty.signNext(9);
        CHECK.due("an empty book", empty.restore(), 0);
        CHECK.due("no leaf", empty.count(1), 0);
    }
}
