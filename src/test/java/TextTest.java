/** Promises 9 to 11, 17 and 19: readPile, type, clearText, find, piled. */
final class TextTest {
    private static final Check CHECK = new Check("TextTest");

    public static void main(String[] args) {
        promise9Piles();
        promise9Faults();
        promise9Errors();
        promise9IsAnAct();
        promise10Type();
        promise11ClearText();
        promise17Find();
        promise19Piled();
        CHECK.end();
    }

    private static void promise9Piles() {
        QuireSigns book = Check.bookOf("A4,**4,B4,A8,Bb24");
        CHECK.due("9: one", Check.readPile(book, "A1"), 1);
        CHECK.due("9: the text stays", book.count(12), 2);
        CHECK.due("9: an act", book.count(11), 2);
        CHECK.due("9: three", Check.readPile(book, "B2,**1,A3"), 3);
        int[] leaves = {2, 4, 9};
        for (int rank = 0; rank < leaves.length; rank++) {
            CHECK.due("9: in the order of the book", book.piled(rank, 0), leaves[rank]);
        }
        CHECK.due("9: A5 is in the second A", Check.readPile(book, "A5"), 1);
        CHECK.due("9: A5", book.piled(0, 0), 16);
        CHECK.due("9: Bb24, not signed", Check.readPile(book, "Bb24"), 1);
        CHECK.due("9: Bb24", book.piled(0, 0), 43);
        book.leaveOut('B', true);
        CHECK.due("9: a letter that is left out", Check.readPile(book, "Bb2,B3"), 2);
        CHECK.due("9: twelve", Check.readPile(book, "B1,B2,B3,B4,A1,A2,A3,A4,A5,A6,A7,A8"), 12);
        CHECK.due("9: count", book.count(9), 12);
        CHECK.due("9: first", book.piled(0, 0), 0);
        CHECK.due("9: last", book.piled(11, 0), 19);
    }

    private static void fault(String text, int fault) {
        QuireSigns book = Check.bookOf("A8");
        Check.readPile(book, "A2");
        CHECK.due("9: fault of '" + text + "'", Check.readPile(book, text), -100 - fault);
        CHECK.due("17: fault of '" + text + "'", book.find(), -100 - fault);
        CHECK.due("9: the pile stays behind '" + text + "'", book.piled(0, 0), 1);
    }

    private static void promise9Faults() {
        fault("", 0);
        fault("a1", 0);
        fault("1", 0);
        fault("A", 1);
        fault("A0", 1);
        fault("A01", 1);
        fault("A-B1", 1);
        fault("Ab1", 1);
        fault("A,", 1);
        fault("Aaaa1", 3);
        fault("******1", 5);
        fault("*a1", 1);
        fault("*-", 1);
        fault("A25", 2);
        fault("A1-", 2);
        fault("A1A", 2);
        fault("A1,", 3);
        fault("A1,,", 3);
        fault("J4,Jjjj", 6);
        fault("J4,V3,W2,?", 9);
    }

    private static void promise9Errors() {
        QuireSigns book = Check.bookOf("A4,B4,B8");
        CHECK.due("9: no sign C", Check.readPile(book, "C1"), QuireSigns.UNKNOWN);
        CHECK.due("9: no sign J", Check.readPile(book, "J1"), QuireSigns.UNKNOWN);
        CHECK.due("9: no leaf A5", Check.readPile(book, "A5"), QuireSigns.UNKNOWN);
        CHECK.due("9: no leaf B9", Check.readPile(book, "A1,B9"), QuireSigns.UNKNOWN);
        CHECK.due("9: twice", Check.readPile(book, "A1,B1,A1"), QuireSigns.NOT_POSSIBLE);
        CHECK.due("9: UNKNOWN ahead", Check.readPile(book, "A1,A1,C1"), QuireSigns.UNKNOWN);
        book.lose(4, true);
        CHECK.due("9: lost, though a second B is there", Check.readPile(book, "B1"), QuireSigns.NOT_POSSIBLE);
        CHECK.due("9: B5 is there", Check.readPile(book, "B5"), 1);
        CHECK.due("9: UNKNOWN ahead of lost", Check.readPile(book, "B1,C1"), QuireSigns.UNKNOWN);
        CHECK.due("9: the fault ahead", Check.readPile(book, "B1,C1,"), -106);
        String thirteen = "A1,A2,A3,A4,B2,B3,B4,B5,B6,B7,B8,*1,*2";
        CHECK.due("9: UNKNOWN ahead of FULL", Check.readPile(book, thirteen), QuireSigns.UNKNOWN);
        book.insert(0, 1, 2);
        CHECK.due("9: FULL", Check.readPile(book, thirteen), QuireSigns.FULL);
        CHECK.due("9: no pile", book.count(9), 0);
        book.lose(0, true);
        CHECK.due("9: NOT_POSSIBLE ahead of FULL", Check.readPile(book, thirteen), QuireSigns.NOT_POSSIBLE);
        String twice = "A1,A1,A1,A1,A1,A1,A1,A1,A1,A1,A1,A1,A1,A1,A1,A1,A1,A1,A1,A1";
        CHECK.due("9: twenty signs", Check.readPile(book, twice), QuireSigns.NOT_POSSIBLE);
        CHECK.due("9: an empty book", Check.readPile(new QuireSigns(), "A1"), QuireSigns.UNKNOWN);
    }

    private static void promise9IsAnAct() {
        QuireSigns book = Check.bookOf("A9");
        CHECK.due("9: the formula alone", book.count(11), 1);
        CHECK.due("9: the first pile", Check.readPile(book, "A9"), 1);
        CHECK.due("9: recorded", book.count(11), 2);
        CHECK.due("9: a second pile", Check.readPile(book, "A2,A3"), 2);
        CHECK.due("9: the same one again", book.readPile(), 2);
        CHECK.due("9: recorded too", book.count(11), 4);
        recordsNothing(book, "A", -101);
        recordsNothing(book, "B1", QuireSigns.UNKNOWN);
        recordsNothing(book, "A1,A1", QuireSigns.NOT_POSSIBLE);
        CHECK.due("9: undo of the same one", book.undo(), 3);
        CHECK.due("9: still the second pile", book.count(9), 2);
        CHECK.due("9: undo of the second pile", book.undo(), 2);
        CHECK.due("9: the first pile has one leaf", book.count(9), 1);
        CHECK.due("9: A9", book.piled(0, 0), 8);
        CHECK.due("9: undo of the first pile", book.undo(), 1);
        CHECK.due("9: no pile", book.count(9), 0);
        CHECK.due("9: the quire stays", book.count(0), 1);
        twelveAreTheMost();
    }

    private static void twelveAreTheMost() {
        QuireSigns book = Check.bookOf("A24");
        String twelve = "A1,A2,A3,A4,A5,A6,A7,A8,A9,A10,A11,A12";
        recordsNothing(book, twelve + ",A13", QuireSigns.FULL);
        CHECK.due("9: twelve", Check.readPile(book, twelve), 12);
        CHECK.due("9: twelve are recorded", book.count(11), 2);
    }

    private static void recordsNothing(QuireSigns book, String text, int due) {
        int states = book.count(11);
        int leaves = book.count(9);
        CHECK.due("9: an error of '" + text + "'", Check.readPile(book, text), due);
        CHECK.due("9: nothing is recorded of '" + text + "'", book.count(11), states);
        CHECK.due("9: the pile stays behind '" + text + "'", book.count(9), leaves);
    }

    private static void promise10Type() {
        QuireSigns book = new QuireSigns();
        for (int i = 1; i <= 60; i++) {
            CHECK.due("10: length", book.type((char) (i * 1000)), i);
        }
        CHECK.due("10: FULL", book.type('A'), QuireSigns.FULL);
        CHECK.due("10: still 60", book.count(12), 60);
        CHECK.due("10: no act", book.count(11), 0);
        book.clearText();
        CHECK.due("10: a zero", book.type((char) 0), 1);
        CHECK.due("10: it stands", book.readFormula(), -100);
        book.clearText();
        book.type('A');
        book.type((char) 65535);
        CHECK.due("10: the last character of all", book.readFormula(), -101);
        book.clearText();
        book.type('A');
        book.type((char) ('4' + 256));
        CHECK.due("10: no digit", book.readFormula(), -101);
    }

    private static void promise11ClearText() {
        QuireSigns book = new QuireSigns();
        CHECK.due("11: empty", book.clearText(), 0);
        Check.put(book, "A4,");
        CHECK.due("11: three", book.clearText(), 3);
        CHECK.due("11: empty then", book.count(12), 0);
        CHECK.due("11: again", book.clearText(), 0);
        CHECK.due("11: nothing of it is left", Check.readFormula(book, "B"), -101);
        CHECK.due("11: no act", book.count(11), 0);
    }

    private static void promise17Find() {
        QuireSigns book = Check.bookOf("A4,**4,B4,A8,Bb24");
        CHECK.due("17: A1", Check.find(book, "A1"), 0);
        CHECK.due("17: A4", Check.find(book, "A4"), 3);
        CHECK.due("17: A8", Check.find(book, "A8"), 19);
        CHECK.due("17: **1", Check.find(book, "**1"), 4);
        CHECK.due("17: *1", Check.find(book, "*1"), QuireSigns.NONE);
        CHECK.due("17: Bb24", Check.find(book, "Bb24"), 43);
        CHECK.due("17: A9", Check.find(book, "A9"), QuireSigns.NONE);
        CHECK.due("17: J1", Check.find(book, "J1"), QuireSigns.NONE);
        CHECK.due("17: two signs", Check.find(book, "A1,A2"), QuireSigns.BAD_VALUE);
        CHECK.due("17: two that no leaf has", Check.find(book, "Z1,Z1"), QuireSigns.BAD_VALUE);
        CHECK.due("17: a fault in the second one", Check.find(book, "A1,A"), -104);
        CHECK.due("17: no formula", Check.find(book, "A-B4"), -101);
        book.lose(0, true);
        CHECK.due("17: a lost leaf is found", Check.find(book, "A1"), 0);
        CHECK.due("17: the text stays", book.count(12), 2);
        CHECK.due("17: no pile comes of it", book.count(9), 0);
    }

    private static void promise19Piled() {
        QuireSigns book = Check.bookOf("A4,B4,C4");
        CHECK.due("19: no pile", book.piled(0, 0), QuireSigns.NONE);
        book.lose(5, true);
        book.lose(11, true);
        Check.readPile(book, "C2,A1,B1,A2");
        int[] leaves = {0, 1, 4, 9};
        int[] missing = {0, 2, 3, QuireSigns.NONE};
        for (int rank = 0; rank < leaves.length; rank++) {
            CHECK.due("19: leaf", book.piled(rank, 0), leaves[rank]);
            CHECK.due("19: between", book.piled(rank, 1), missing[rank]);
        }
        CHECK.due("19: 4", book.piled(4, 0), QuireSigns.NONE);
        CHECK.due("19: 4", book.piled(4, 1), QuireSigns.NONE);
        CHECK.due("19: the greatest", book.piled(Integer.MAX_VALUE, 1), QuireSigns.NONE);
        CHECK.due("19: -1", book.piled(-1, 0), QuireSigns.BAD_VALUE);
        CHECK.due("19: what -1", book.piled(0, -1), QuireSigns.BAD_VALUE);
        CHECK.due("19: what 2", book.piled(0, 2), QuireSigns.BAD_VALUE);
        CHECK.due("19: BAD_VALUE ahead", book.piled(9, 2), QuireSigns.BAD_VALUE);
    }
}
