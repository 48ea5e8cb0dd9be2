/** Promises 4 to 8: readFormula, signNext, insert, remove, lose. */
final class QuiresTest {
    private static final Check CHECK = new Check("QuiresTest");

    public static void main(String[] args) {
        promise4Formulas();
        promise4Faults();
        promise4LeftOutLetters();
        promise4Full();
        promise5SignNext();
        promise5Errors();
        promise6Insert();
        promise6Errors();
        promise7Remove();
        promise8Lose();
        actsEmptyThePile();
        CHECK.end();
    }

    private static void promise4Formulas() {
        QuireSigns book = new QuireSigns();
        CHECK.due("4: one", Check.readFormula(book, "A4"), 1);
        CHECK.due("4: the text stays", book.count(12), 2);
        CHECK.due("4: again", book.readFormula(), 2);
        CHECK.due("4: I to K without J", Check.readFormula(book, "I-K8"), 4);
        CHECK.due("4: letter", book.quire(3, 1), 'K');
        CHECK.due("4: U to X", Check.readFormula(book, "Uuu-Xxx24"), 6);
        CHECK.due("4: times", book.quire(5, 0), 3);
        CHECK.due("4: letter", book.quire(5, 1), 'X');
        CHECK.due("4: leaves", book.quire(5, 2), 24);
        CHECK.due("4: from one to itself", Check.readFormula(book, "Bb-Bb1"), 7);
        CHECK.due("4: stars", Check.readFormula(book, "*****10,*19,Cc2"), 10);
        CHECK.due("4: stars", book.quire(7, 0), 5);
        CHECK.due("4: ten leaves", book.quire(7, 2), 10);
        CHECK.due("4: nineteen leaves", book.quire(8, 2), 19);
        CHECK.due("4: two letters", book.quire(9, 0), 2);
        CHECK.due("4: states", book.count(11), 4);
    }

    private static void fault(String text, int fault) {
        QuireSigns book = new QuireSigns();
        CHECK.due("4: fault of '" + text + "'", Check.readFormula(book, text), -100 - fault);
        CHECK.due("4: quires of '" + text + "'", book.count(0), 0);
        CHECK.due("4: states of '" + text + "'", book.count(11), 0);
    }

    private static void promise4Faults() {
        fault("", 0);
        fault("a4", 0);
        fault("4", 0);
        fault(",A4", 0);
        fault("-A4", 0);
        fault(" A4", 0);
        fault("A", 1);
        fault("A0", 1);
        fault("A04", 1);
        fault("A 4", 1);
        fault("A,", 1);
        fault("Ab4", 1);
        fault("AA4", 1);
        fault("A*4", 1);
        fault("Aa", 2);
        fault("Aaaa4", 3);
        fault("Aaa", 3);
        fault("A4,", 3);
        fault("A4,,B4", 3);
        fault("A4 ", 2);
        fault("A4-B4", 2);
        fault("A4B4", 2);
        fault("A25", 2);
        fault("A30", 2);
        fault("A100", 3);
        fault("A240", 3);
        fault("*", 1);
        fault("*0", 1);
        fault("*a4", 1);
        fault("*-**4", 1);
        fault("*****", 5);
        fault("******4", 5);
        fault("A4,J4", 3);
        fault("A4,B4,c", 6);
    }

    private static void secondSigns() {
        fault("A-", 2);
        fault("A-*4", 2);
        fault("A-4", 2);
        fault("A-b4", 2);
        fault("A--B4", 2);
        fault("A-,", 2);
        fault("A-J4", 2);
        fault("A-B", 3);
        fault("A-B-C4", 3);
        fault("A-B0", 3);
        fault("A-B,", 3);
        fault("C-A4", 2);
        fault("C-A", 2);
        fault("C-A?", 2);
        fault("C-Ab4", 2);
        fault("C-Aa4", 3);
        fault("A-Bb", 3);
        fault("A-Bb4", 3);
        fault("A-Bbb4", 4);
        fault("A-Bbbb4", 4);
        fault("B-Aa4", 3);
        fault("Aa-B4", 3);
        fault("Aa-B", 3);
        fault("Aa-Bc4", 3);
        fault("Aa-Bbb4", 5);
        fault("Aa-Bbb", 5);
        fault("Aa-Bbbb", 5);
        fault("Aaa-Bbbb4", 7);
        fault("Bbb-Aaa4", 6);
        fault("Bb-Aa4", 4);
        fault("B4,B-A4", 5);
    }

    private static void promise4LeftOutLetters() {
        secondSigns();
        fault("J4", 0);
        fault("V-X4", 0);
        fault("U-W4", 2);
        QuireSigns book = new QuireSigns();
        book.leaveOut('J', false);
        CHECK.due("4: J is in", Check.readFormula(book, "J4"), 1);
        book.leaveOut('B', true);
        CHECK.due("4: B is out", Check.readFormula(book, "B4"), -100);
        CHECK.due("4: B is out", Check.readFormula(book, "A-Bb4"), -102);
        CHECK.due("4: A to D without B", Check.readFormula(book, "A-D4"), 4);
        CHECK.due("4: C", book.quire(2, 1), 'C');
    }

    private static void promise4Full() {
        QuireSigns book = Check.bookOf("A-Z8");
        CHECK.due("4: 23 quires", book.count(0), 23);
        CHECK.due("4: 41", Check.readFormula(book, "Aa-Ss8"), QuireSigns.FULL);
        CHECK.due("4: nothing is put", book.count(0), 23);
        CHECK.due("4: no state", book.count(11), 1);
        CHECK.due("4: 40", Check.readFormula(book, "Aa-Rr24"), 40);
        CHECK.due("4: 41", Check.readFormula(book, "*1"), QuireSigns.FULL);
        CHECK.due("4: a fault is told ahead", Check.readFormula(book, "*1,"), -103);
        QuireSigns most = new QuireSigns();
        String many = "A-Z1,A-Z1,A-Z1,A-Z1,A-Z1,A-Z1,A-Z1,A-Z1,A-Z1,A-Z1,A-Z1,A-Z11";
        CHECK.due("4: far too many", Check.readFormula(most, many.substring(0, 59)), QuireSigns.FULL);
        String entries = "A1,A1,A1,A1,A1,A1,A1,A1,A1,A1,A1,A1,A1,A1,A1,A1,A1,A1,A1,A11";
        CHECK.due("4: twenty entries", Check.readFormula(most, entries), 20);
        CHECK.due("4: twenty more", most.readFormula(), 40);
        CHECK.due("4: leaves of the last one", most.quire(39, 2), 11);
        String comma = "A1,A1,A1,A1,A1,A1,A1,A1,A1,A1,A1,A1,A1,A1,A1,A1,A1,A1,A1,A1,";
        CHECK.due("4: a comma at the very end", Check.readFormula(most, comma), -160);
    }

    private static void promise5SignNext() {
        QuireSigns book = new QuireSigns();
        CHECK.due("5: first", book.signNext(1), 0);
        CHECK.due("5: A", book.quire(0, 1), 'A');
        CHECK.due("5: second", book.signNext(24), 1);
        CHECK.due("5: B", book.quire(1, 1), 'B');
        CHECK.due("5: leaves", book.quire(1, 2), 24);
        book.insert(2, 3, 2);
        CHECK.due("5: behind stars", book.signNext(2), 3);
        CHECK.due("5: C", book.quire(3, 1), 'C');
        QuireSigns letters = Check.bookOf("I4");
        letters.signNext(4);
        CHECK.due("5: behind I is K", letters.quire(1, 1), 'K');
        QuireSigns doubled = Check.bookOf("Z4");
        doubled.signNext(4);
        CHECK.due("5: behind Z is A", doubled.quire(1, 1), 'A');
        CHECK.due("5: twice", doubled.quire(1, 0), 2);
        QuireSigns tripled = Check.bookOf("Zz4");
        tripled.leaveOut('A', true);
        tripled.signNext(4);
        CHECK.due("5: behind Zz is B", tripled.quire(1, 1), 'B');
        CHECK.due("5: thrice", tripled.quire(1, 0), 3);
        QuireSigns out = Check.bookOf("C4");
        out.leaveOut('C', true);
        out.leaveOut('D', true);
        out.signNext(4);
        CHECK.due("5: behind C, which is out, is E", out.quire(1, 1), 'E');
        QuireSigns stars = Check.bookOf("*4");
        stars.leaveOut('A', true);
        CHECK.due("5: without letters", stars.signNext(4), 1);
        CHECK.due("5: the first sign", stars.quire(1, 1), 'B');
    }

    private static void promise5Errors() {
        QuireSigns book = Check.bookOf("Zzz4");
        CHECK.due("5: behind Zzz", book.signNext(4), QuireSigns.NOT_POSSIBLE);
        CHECK.due("5: BAD_VALUE ahead", book.signNext(0), QuireSigns.BAD_VALUE);
        CHECK.due("5: 25", book.signNext(25), QuireSigns.BAD_VALUE);
        CHECK.due("5: the least", book.signNext(Integer.MIN_VALUE), QuireSigns.BAD_VALUE);
        CHECK.due("5: the greatest", book.signNext(Integer.MAX_VALUE), QuireSigns.BAD_VALUE);
        book.leaveOut('Z', true);
        CHECK.due("5: behind Zzz that is out", book.signNext(4), QuireSigns.NOT_POSSIBLE);
        for (int i = 1; i < 39; i++) {
            book.insert(0, 1, 1);
        }
        CHECK.due("5: 39 quires", book.signNext(4), QuireSigns.NOT_POSSIBLE);
        book.insert(0, 1, 1);
        CHECK.due("5: 40 quires", book.signNext(4), QuireSigns.FULL);
        CHECK.due("5: BAD_VALUE ahead of FULL", book.signNext(25), QuireSigns.BAD_VALUE);
        CHECK.due("5: nothing is put", book.count(0), 40);
    }

    private static void promise6Insert() {
        QuireSigns book = Check.bookOf("A4,B6");
        book.lose(4, true);
        CHECK.due("6: ahead of B", book.insert(1, 2, 3), 13);
        CHECK.due("6: stars", book.quire(1, 0), 2);
        CHECK.due("6: no letter", book.quire(1, 1), QuireSigns.NONE);
        CHECK.due("6: B goes back", book.quire(2, 1), 'B');
        CHECK.due("6: the lost leaf goes along", book.leaf(7, 4), 1);
        CHECK.due("6: the new one is there", book.leaf(4, 4), 0);
        CHECK.due("6: at the end", book.insert(3, 5, 24), 37);
        CHECK.due("6: stars", book.quire(3, 0), 5);
        CHECK.due("6: at the front", book.insert(0, 1, 1), 38);
        CHECK.due("6: stars", book.quire(0, 0), 1);
        CHECK.due("6: in an empty book", new QuireSigns().insert(0, 1, 7), 7);
    }

    private static void promise6Errors() {
        QuireSigns book = Check.bookOf("A4,B6");
        CHECK.due("6: quire -1", book.insert(-1, 0, 0), QuireSigns.UNKNOWN);
        CHECK.due("6: quire 3", book.insert(3, 1, 1), QuireSigns.UNKNOWN);
        CHECK.due("6: no star", book.insert(2, 0, 1), QuireSigns.BAD_VALUE);
        CHECK.due("6: six stars", book.insert(2, 6, 1), QuireSigns.BAD_VALUE);
        CHECK.due("6: no leaf", book.insert(2, 1, 0), QuireSigns.BAD_VALUE);
        CHECK.due("6: 25 leaves", book.insert(2, 1, 25), QuireSigns.BAD_VALUE);
        CHECK.due("6: the least", book.insert(0, Integer.MIN_VALUE, 1), QuireSigns.BAD_VALUE);
        CHECK.due("6: the greatest", book.insert(Integer.MAX_VALUE, 1, 1), QuireSigns.UNKNOWN);
        CHECK.due("6: nothing is put", book.count(0), 2);
        for (int i = 2; i < 40; i++) {
            CHECK.due("6: leaves", book.insert(i, 1, 24), 10 + 24 * (i - 1));
        }
        CHECK.due("6: FULL", book.insert(40, 1, 1), QuireSigns.FULL);
        CHECK.due("6: BAD_VALUE ahead of FULL", book.insert(40, 6, 1), QuireSigns.BAD_VALUE);
        CHECK.due("6: UNKNOWN ahead", book.insert(41, 6, 1), QuireSigns.UNKNOWN);
    }

    private static void promise7Remove() {
        QuireSigns book = Check.bookOf("A4,B6,C8");
        book.lose(11, true);
        CHECK.due("7: B", book.remove(1), 12);
        CHECK.due("7: C is next", book.quire(1, 1), 'C');
        CHECK.due("7: its leaves", book.quire(1, 2), 8);
        CHECK.due("7: the lost leaf goes along", book.leaf(5, 4), 1);
        CHECK.due("7: no third one", book.remove(2), QuireSigns.UNKNOWN);
        CHECK.due("7: -1", book.remove(-1), QuireSigns.UNKNOWN);
        CHECK.due("7: the greatest", book.remove(Integer.MAX_VALUE), QuireSigns.UNKNOWN);
        CHECK.due("7: C", book.remove(1), 4);
        CHECK.due("7: its lost leaf is gone", book.count(2), 0);
        CHECK.due("7: A", book.remove(0), 0);
        CHECK.due("7: none", book.remove(0), QuireSigns.UNKNOWN);
        CHECK.due("7: the alphabet begins anew", book.signNext(2), 0);
        CHECK.due("7: A", book.quire(0, 1), 'A');
        CHECK.due("7: it is whole", book.quire(0, 5), 2);
    }

    private static void promise8Lose() {
        QuireSigns book = Check.bookOf("A4,B24");
        CHECK.due("8: first", book.lose(0, true), 27);
        CHECK.due("8: again", book.lose(0, true), QuireSigns.NONE);
        CHECK.due("8: last", book.lose(27, true), 26);
        CHECK.due("8: 28", book.lose(28, true), QuireSigns.UNKNOWN);
        CHECK.due("8: -1", book.lose(-1, false), QuireSigns.UNKNOWN);
        CHECK.due("8: the greatest", book.lose(Integer.MAX_VALUE, true), QuireSigns.UNKNOWN);
        CHECK.due("8: one that is there", book.lose(1, false), QuireSigns.NONE);
        CHECK.due("8: found", book.lose(0, false), 27);
        CHECK.due("8: lost", book.count(2), 1);
        CHECK.due("8: states", book.count(11), 4);
        CHECK.due("8: leaves", book.count(1), 28);
        CHECK.due("8: an empty book", new QuireSigns().lose(0, true), QuireSigns.UNKNOWN);
    }

    private static QuireSigns bookWithPile() {
        QuireSigns book = Check.bookOf("A4,B4");
        Check.readPile(book, "A1,B2");
        CHECK.due("a pile of two", book.count(9), 2);
        return book;
    }

    private static void actsEmptyThePile() {
        QuireSigns read = bookWithPile();
        Check.readFormula(read, "C4");
        CHECK.due("4: no pile", read.count(9), 0);
        QuireSigns signed = bookWithPile();
        signed.signNext(1);
        CHECK.due("5: no pile", signed.count(9), 0);
        QuireSigns inserted = bookWithPile();
        inserted.insert(2, 1, 1);
        CHECK.due("6: no pile", inserted.count(9), 0);
        QuireSigns removed = bookWithPile();
        removed.remove(1);
        CHECK.due("7: no pile", removed.count(9), 0);
        QuireSigns lost = bookWithPile();
        lost.lose(7, true);
        CHECK.due("8: no pile", lost.count(9), 0);
        Check.readPile(lost, "A1");
        lost.lose(7, false);
        CHECK.due("8: no pile", lost.count(9), 0);
        QuireSigns kept = bookWithPile();
        kept.lose(7, false);
        kept.remove(2);
        kept.signNext(0);
        kept.insert(0, 0, 1);
        Check.readFormula(kept, "C");
        CHECK.due("errors and NONE leave the pile", kept.count(9), 2);
    }
}
