/** Promises 12 to 14: undo, keep, restore. */
final class HistoryTest {
    private static final Check CHECK = new Check("HistoryTest");

    public static void main(String[] args) {
        promise12Undo();
        promise12FourStates();
        promise12WhatIsRestored();
        promise12NoAct();
        promise13Keep();
        promise14Restore();
        CHECK.end();
    }

    private static void promise12Undo() {
        QuireSigns book = new QuireSigns();
        CHECK.due("12: empty", book.undo(), QuireSigns.NONE);
        book.signNext(4);
        book.signNext(6);
        CHECK.due("12: one left", book.undo(), 1);
        CHECK.due("12: leaves", book.count(1), 4);
        CHECK.due("12: none left", book.undo(), 0);
        CHECK.due("12: leaves", book.count(1), 0);
        CHECK.due("12: empty", book.undo(), QuireSigns.NONE);
    }

    private static void promise12FourStates() {
        QuireSigns book = new QuireSigns();
        for (int leaves = 1; leaves <= 6; leaves++) {
            book.signNext(leaves);
        }
        CHECK.due("12: four", book.count(11), 4);
        for (int left = 3; left >= 0; left--) {
            CHECK.due("12: left", book.undo(), left);
            CHECK.due("12: quires", book.count(0), left + 2);
        }
        CHECK.due("12: the oldest ones are dropped", book.undo(), QuireSigns.NONE);
        CHECK.due("12: leaves", book.count(1), 3);
        book.signNext(9);
        CHECK.due("12: one again", book.count(11), 1);
        book.undo();
        CHECK.due("12: leaves", book.count(1), 3);
    }

    private static void promise12WhatIsRestored() {
        QuireSigns book = Check.bookOf("A4,B4");
        Check.readPile(book, "A1,B2");
        book.lose(3, true);
        CHECK.due("12: no pile", book.count(9), 0);
        Check.put(book, "A1");
        book.undo();
        CHECK.due("12: the pile", book.count(9), 2);
        CHECK.due("12: its second leaf", book.piled(1, 0), 5);
        CHECK.due("12: the leaf", book.leaf(3, 4), 0);
        CHECK.due("12: the text stays", book.count(12), 2);
        book.leaveOut('C', true);
        book.setSigning(2);
        Check.readPile(book, "A2,A3,A4");
        CHECK.due("12: undo of the pile", book.undo(), 3);
        CHECK.due("12: the pile as it was then", book.count(9), 2);
        CHECK.due("12: the signing stays", book.count(10), 2);
        CHECK.due("12: undo of the signing", book.undo(), 2);
        CHECK.due("12: signing", book.count(10), 1);
        CHECK.due("12: undo of the letter", book.undo(), 1);
        CHECK.due("12: letters", book.count(4), 23);
        CHECK.due("12: the pile still", book.count(9), 2);
        CHECK.due("12: undo of the first pile", book.undo(), 0);
        CHECK.due("12: no pile was there", book.count(9), 0);
        book.insert(0, 1, 1);
        book.remove(2);
        book.undo();
        CHECK.formula(book, "*1,A-B4");
        book.undo();
        CHECK.formula(book, "A-B4");
    }

    private static void promise12NoAct() {
        QuireSigns book = Check.bookOf("A4,B4");
        Check.put(book, "A1");
        book.find();
        book.keep();
        book.type('A');
        book.clearText();
        CHECK.due("12: no acts", book.count(11), 1);
        book.leaveOut('J', true);
        book.leaveOut('?', true);
        book.setSigning(1);
        book.setSigning(3);
        book.readFormula();
        book.readPile();
        book.signNext(0);
        book.insert(3, 1, 1);
        book.remove(2);
        book.lose(0, false);
        book.lose(8, true);
        CHECK.due("12: errors and NONE", book.count(11), 1);
        CHECK.due("12: undo", book.undo(), 0);
        CHECK.due("12: the snapshot is no state of it", book.restore(), 2);
    }

    private static void promise13Keep() {
        QuireSigns book = new QuireSigns();
        CHECK.due("13: an empty book", book.keep(), 0);
        book.signNext(4);
        CHECK.due("13: one quire", book.keep(), 1);
        CHECK.due("13: no act", book.count(11), 1);
        book.signNext(4);
        book.undo();
        book.undo();
        CHECK.due("13: it is in place of the first one", book.restore(), 1);
        book.lose(0, true);
        CHECK.due("13: the snapshot is a copy", book.restore(), 1);
        CHECK.due("13: the leaf is there", book.leaf(0, 4), 0);
    }

    private static void promise14Restore() {
        QuireSigns book = Check.bookOf("A4,B4");
        CHECK.due("14: none", book.restore(), QuireSigns.NONE);
        book.leaveOut('D', true);
        book.setSigning(0);
        book.lose(1, true);
        Check.readPile(book, "A1,B1");
        book.keep();
        book.leaveOut('D', false);
        book.setSigning(2);
        book.lose(1, false);
        book.remove(0);
        Check.put(book, "Zz");
        CHECK.due("14: quires", book.restore(), 2);
        CHECK.due("14: letters", book.count(4), 22);
        CHECK.due("14: signing", book.count(10), 0);
        CHECK.due("14: lost", book.leaf(1, 4), 1);
        CHECK.due("14: the pile", book.count(9), 2);
        CHECK.due("14: its second leaf", book.piled(1, 0), 4);
        CHECK.due("14: the text stays", book.count(12), 2);
        CHECK.due("14: it is an act", book.undo(), 3);
        CHECK.due("14: as before it", book.count(0), 1);
        CHECK.due("14: the snapshot stays", book.restore(), 2);
        CHECK.due("14: also of the same state", book.restore(), 2);
        CHECK.due("14: states", book.count(11), 4);
    }
}
