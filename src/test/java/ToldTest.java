/** Promises 15, 16, 18 and 20 to 22: quire, leaf, lapse, sheets, formula, count. */
final class ToldTest {
    private static final Check CHECK = new Check("ToldTest");

    public static void main(String[] args) {
        promise15Quire();
        promise15Errors();
        promise16Leaf();
        promise16Errors();
        promise18Lapses();
        promise18LeftOutLetters();
        promise18Errors();
        promise20Sheets();
        promise21Formula();
        promise21LeftOutLetters();
        promise21Longest();
        promise22Count();
        CHECK.end();
    }

    private static void row(String what, QuireSigns book, int quire, int... due) {
        for (int i = 0; i < due.length; i++) {
            CHECK.due(what + ": quire(" + quire + ", " + i + ")", book.quire(quire, i), due[i]);
        }
    }

    private static void promise15Quire() {
        QuireSigns book = Check.bookOf("A4,***3,Aa24,A1,***6,A5");
        book.lose(0, true);
        book.lose(6, true);
        book.lose(30, true);
        row("15", book, 0, 1, 'A', 4, 0, 3, 3, 0);
        row("15", book, 1, 3, QuireSigns.NONE, 3, 4, 3, 2, 0);
        row("15", book, 2, 2, 'A', 24, 7, 13, 23, 0);
        row("15", book, 3, 1, 'A', 1, 31, 1, 1, 1);
        row("15", book, 4, 3, QuireSigns.NONE, 6, 32, 4, 6, 1);
        row("15", book, 5, 1, 'A', 5, 38, 4, 5, 2);
        book.setSigning(0);
        row("15, half", book, 2, 2, 'A', 24, 7, 12);
        row("15, half", book, 5, 1, 'A', 5, 38, 3);
        book.setSigning(2);
        row("15, all", book, 5, 1, 'A', 5, 38, 5);
    }

    private static void promise15Errors() {
        QuireSigns book = Check.bookOf("A4");
        CHECK.due("15: -1", book.quire(-1, 7), QuireSigns.UNKNOWN);
        CHECK.due("15: 1", book.quire(1, 0), QuireSigns.UNKNOWN);
        CHECK.due("15: the greatest", book.quire(Integer.MAX_VALUE, 0), QuireSigns.UNKNOWN);
        CHECK.due("15: what -1", book.quire(0, -1), QuireSigns.BAD_VALUE);
        CHECK.due("15: what 7", book.quire(0, 7), QuireSigns.BAD_VALUE);
    }

    private static void leaf(QuireSigns book, int leaf, int... due) {
        for (int i = 0; i < due.length; i++) {
            CHECK.due("16: leaf(" + leaf + ", " + i + ")", book.leaf(leaf, i), due[i]);
        }
    }

    private static void promise16Leaf() {
        QuireSigns book = Check.bookOf("A4,B5,*1");
        book.lose(1, true);
        book.lose(8, true);
        leaf(book, 0, 0, 1, 1, 3, 0, 0);
        leaf(book, 1, 0, 2, 1, 2, 1, 1);
        leaf(book, 2, 0, 3, 1, 1, 0, 1);
        leaf(book, 3, 0, 4, 0, 0, 0, 2);
        leaf(book, 4, 1, 1, 1, 8, 0, 3);
        leaf(book, 6, 1, 3, 1, QuireSigns.NONE, 0, 5);
        leaf(book, 7, 1, 4, 1, 5, 0, 6);
        leaf(book, 8, 1, 5, 0, 4, 1, 7);
        leaf(book, 9, 2, 1, 1, QuireSigns.NONE, 0, 7);
        book.setSigning(0);
        leaf(book, 2, 0, 3, 0);
        leaf(book, 6, 1, 3, 1);
        leaf(book, 7, 1, 4, 0);
        book.setSigning(2);
        leaf(book, 8, 1, 5, 1);
    }

    private static void promise16Errors() {
        QuireSigns book = Check.bookOf("A4,B5");
        CHECK.due("16: -1", book.leaf(-1, 6), QuireSigns.UNKNOWN);
        CHECK.due("16: 9", book.leaf(9, 0), QuireSigns.UNKNOWN);
        CHECK.due("16: the least", book.leaf(Integer.MIN_VALUE, 0), QuireSigns.UNKNOWN);
        CHECK.due("16: what -1", book.leaf(8, -1), QuireSigns.BAD_VALUE);
        CHECK.due("16: what 6", book.leaf(8, 6), QuireSigns.BAD_VALUE);
    }

    private static void lapse(QuireSigns book, int rank, int... due) {
        for (int i = 0; i < due.length; i++) {
            CHECK.due("18: lapse(" + rank + ", " + i + ")", book.lapse(rank, i), due[i]);
        }
    }

    private static void promise18Lapses() {
        QuireSigns book = Check.bookOf("*1,A-C1,*1,C1,**1,B1,F1,I1,K1,Z1,Aa1,Aaa1,A1,*1");
        // The quires: * A B C * C ** B F I K Z Aa Aaa A *
        lapse(book, 0, 5, 0, 0);
        lapse(book, 1, 7, 1, 0);
        lapse(book, 2, 8, 2, 3);
        lapse(book, 3, 9, 2, 2);
        lapse(book, 4, 11, 2, 12);
        lapse(book, 5, 13, 2, 22);
        lapse(book, 6, 14, 1, 0);
        lapse(book, 7, QuireSigns.NONE, QuireSigns.NONE, QuireSigns.NONE);
        CHECK.due("18: lapses", book.count(6), 7);
        CHECK.due("18: Zzz twice", Check.bookOf("Zzz1,Zzz1").lapse(0, 1), 0);
        CHECK.due("18: A behind Zzz", Check.bookOf("Zzz1,A1").lapse(0, 1), 1);
        CHECK.due("18: any first one is right", Check.bookOf("M1,N1").count(6), 0);
    }

    private static void promise18LeftOutLetters() {
        QuireSigns book = new QuireSigns();
        book.leaveOut('J', false);
        Check.readFormula(book, "I-K1");
        CHECK.due("18: no lapse", book.count(6), 0);
        book.leaveOut('J', true);
        // The next one of I is K, and of J, though it is out, K too.
        CHECK.due("18: J behind I", book.count(6), 1);
        lapse(book, 0, 1, 2, 0);
        QuireSigns end = Check.bookOf("Yyy1,Zzz1");
        end.leaveOut('Z', true);
        lapse(end, 0, 1, 2, 0);
        QuireSigns wide = Check.bookOf("A1,E1");
        lapse(wide, 0, 1, 2, 3);
        wide.leaveOut('C', true);
        lapse(wide, 0, 1, 2, 2);
        wide.leaveOut('B', true);
        wide.leaveOut('D', true);
        lapse(wide, 0, QuireSigns.NONE);
    }

    private static void promise18Errors() {
        QuireSigns book = Check.bookOf("A1,A1");
        CHECK.due("18: -1", book.lapse(-1, 0), QuireSigns.BAD_VALUE);
        CHECK.due("18: what -1", book.lapse(0, -1), QuireSigns.BAD_VALUE);
        CHECK.due("18: what 3", book.lapse(0, 3), QuireSigns.BAD_VALUE);
        CHECK.due("18: BAD_VALUE ahead of NONE", book.lapse(1, 3), QuireSigns.BAD_VALUE);
        CHECK.due("18: the greatest", book.lapse(Integer.MAX_VALUE, 0), QuireSigns.NONE);
        CHECK.due("18: the least", book.lapse(Integer.MIN_VALUE, 0), QuireSigns.BAD_VALUE);
    }

    private static void promise20Sheets() {
        QuireSigns book = Check.bookOf("A1,B4,C5,D8,E12,F13,*24");
        book.lose(0, true);
        CHECK.due("20: 2", book.sheets(2), 1 + 2 + 3 + 4 + 6 + 7 + 12);
        CHECK.due("20: 4", book.sheets(4), 1 + 1 + 2 + 2 + 3 + 4 + 6);
        CHECK.due("20: 8", book.sheets(8), 1 + 1 + 1 + 1 + 2 + 2 + 3);
        CHECK.due("20: 12", book.sheets(12), 1 + 1 + 1 + 1 + 1 + 2 + 2);
        int[] bad = {Integer.MIN_VALUE, -2, 0, 1, 3, 6, 10, 16, 24, Integer.MAX_VALUE};
        for (int fold : bad) {
            CHECK.due("20: " + fold, book.sheets(fold), QuireSigns.BAD_VALUE);
        }
        CHECK.due("20: an empty book", new QuireSigns().sheets(2), 0);
    }

    private static void promise21Formula() {
        String[] same = {"A4", "A-B4", "A-Z24", "A4,B6", "A4,A4", "A-C4,*2,D-F4", "*1,*1", "*****24,****10",
            "Z4,Aa4", "Zz-Zz4", "A-B4,C6,D-E4", "I-K8", "Aaa-Bbb1", "B4,A4", "A4,C4"};
        for (String formula : same) {
            String due = formula.equals("Zz-Zz4") ? "Zz4" : formula;
            CHECK.formula(Check.bookOf(formula), due);
        }
        CHECK.formula(Check.bookOf("A4,B4,C4,D4,F4,G4,*4,H4"), "A-D4,F-G4,*4,H4");
        CHECK.formula(Check.bookOf("Y4,Z4,Aa4,Bb4"), "Y-Z4,Aa-Bb4");
        CHECK.formula(Check.bookOf("A4,A4,B4,B4"), "A4,A-B4,B4");
        QuireSigns book = Check.bookOf("A-B4");
        CHECK.due("21: the end", book.formula(4), QuireSigns.NONE);
        CHECK.due("21: the greatest", book.formula(Integer.MAX_VALUE), QuireSigns.NONE);
        CHECK.due("21: -1", book.formula(-1), QuireSigns.BAD_VALUE);
        CHECK.due("21: the least", book.formula(Integer.MIN_VALUE), QuireSigns.BAD_VALUE);
        CHECK.due("21: a lost leaf is of the quire", book.lose(0, true), 7);
        CHECK.formula(book, "A-B4");
        CHECK.formula(new QuireSigns(), "");
    }

    private static void promise21LeftOutLetters() {
        QuireSigns book = Check.bookOf("A-E4");
        book.leaveOut('C', true);
        CHECK.formula(book, "A-B4,C-E4");
        book.remove(2);
        CHECK.formula(book, "A-E4");
        book.leaveOut('C', false);
        CHECK.formula(book, "A-B4,D-E4");
    }

    private static void promise21Longest() {
        QuireSigns book = new QuireSigns();
        StringBuilder due = new StringBuilder();
        for (int i = 0; i < 40; i++) {
            book.insert(i, 5, 24);
            due.append(i == 0 ? "*****24" : ",*****24");
        }
        CHECK.due("21: the longest", book.count(7), 319);
        CHECK.due("22: its entries", book.count(8), 40);
        CHECK.due("21: its last character", book.formula(318), '4');
        CHECK.due("21: behind it", book.formula(319), QuireSigns.NONE);
        for (int i = 0; i < 319; i++) {
            CHECK.due("21: character " + i, book.formula(i), due.charAt(i));
        }
    }

    private static void promise22Count() {
        QuireSigns book = Check.bookOf("A-C4,*2,F5");
        book.leaveOut('Q', true);
        book.setSigning(2);
        book.lose(3, true);
        book.lose(14, true);
        Check.readPile(book, "A1,F2,*2");
        Check.put(book, "A1,F");
        int[] counts = {5, 19, 2, 19, 22, 1, 1, 10, 3, 3, 2, 4, 4};
        for (int what = 0; what < counts.length; what++) {
            CHECK.due("22: count(" + what + ")", book.count(what), counts[what]);
        }
        CHECK.due("22: starred ones at both ends", Check.bookOf("*1,A1,**1,B1,*1").count(5), 3);
        CHECK.due("22: -1", book.count(-1), QuireSigns.BAD_VALUE);
        CHECK.due("22: 13", book.count(13), QuireSigns.BAD_VALUE);
        CHECK.due("22: the greatest", book.count(Integer.MAX_VALUE), QuireSigns.BAD_VALUE);
        CHECK.due("22: the least", book.count(Integer.MIN_VALUE), QuireSigns.BAD_VALUE);
    }
}
