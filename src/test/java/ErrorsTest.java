import java.util.function.Supplier;
import java.util.function.ToIntFunction;

/**
 * The document's section "Errors", and the errors of each promise: which answer is due, which of
 * several errors is told, and that a refused call changes nothing.
 */
final class ErrorsTest {
    private static final Check CHECK = new Check("ErrorsTest");
    private static final int[] NOT_0_TO_2 = {Integer.MIN_VALUE, -1, 3, Integer.MAX_VALUE};
    private static final int[] NOT_1_TO_24 = {Integer.MIN_VALUE, -1, 0, 25, Integer.MAX_VALUE};
    private static final String THIRTEEN = "A1,A2,A3,A4,B1,B2,B3,B4,*1,*2,C1,C2,C3";

    public static void main(String[] args) {
        constants();
        ordersOfActs();
        ordersOfPiles();
        ordersOfWhatIsTold();
        noneOnlyWithoutErrors();
        refusedLeaveOut();
        refusedSetSigning();
        refusedReadFormula();
        refusedSignNext();
        refusedInsert();
        refusedRemoveAndLose();
        refusedReadPile();
        refusedTypeUndoRestore();
        refusedQuireAndLeaf();
        refusedFind();
        refusedRanks();
        refusedSheetsFormulaCount();
        CHECK.end();
    }

    private static void constants() {
        constant("`UNKNOWN = -1`: There is no such quire, leaf or letter.", QuireSigns.UNKNOWN, -1);
        constant("`BAD_VALUE = -2`: Another argument is out of range.", QuireSigns.BAD_VALUE, -2);
        constant("`FULL = -3`: There is no more room.", QuireSigns.FULL, -3);
        constant("`NOT_POSSIBLE = -4`: This is not possible.", QuireSigns.NOT_POSSIBLE, -4);
        constant("`NONE = -5`: There is no such thing; not an error.", QuireSigns.NONE, -5);
    }

    private static void constant(String words, int constant, int due) {
        CHECK.sentence(words);
        CHECK.due("the constant", constant, due);
    }

    // ---- books

    /** Three quires, a lost leaf, a pile, a snapshot that is another state, a text and four states. */
    private static QuireSigns some() {
        QuireSigns book = Check.bookOf("A-B4,*2");
        book.lose(7, true);
        book.keep();
        book.setSigning(0);
        Check.readPile(book, "A1,B2");
        Check.put(book, "B3");
        return book;
    }

    private static QuireSigns someWith(String text) {
        QuireSigns book = some();
        Check.put(book, text);
        return book;
    }

    private static QuireSigns oneLetter() {
        QuireSigns book = some();
        for (char letter = 'A'; letter <= 'Z'; letter++) {
            if (letter != 'M') {
                book.leaveOut(letter, true);
            }
        }
        return book;
    }

    /** Forty quires, behind the last letter of which no sign comes. */
    private static QuireSigns full() {
        QuireSigns book = Check.bookOf("Zzz1");
        for (int quire = 1; quire < 40; quire++) {
            book.insert(quire, 1, 1);
        }
        return book;
    }

    private static QuireSigns fullWith(String text) {
        QuireSigns book = full();
        Check.put(book, text);
        return book;
    }

    // ---- orders

    private static void ordersOfActs() {
        CHECK.sentence("Where several errors can apply, the order of the @return line is the order of the checks.");
        CHECK.due("leaveOut: UNKNOWN ahead", oneLetter().leaveOut('?', true), QuireSigns.UNKNOWN);
        CHECK.due("readFormula: the fault ahead of FULL", fullWith("A-Z1,").readFormula(), -105);
        CHECK.due("readFormula: FULL", fullWith("A-Z1").readFormula(), QuireSigns.FULL);
        CHECK.due("signNext: BAD_VALUE ahead", full().signNext(0), QuireSigns.BAD_VALUE);
        CHECK.due("signNext: BAD_VALUE ahead", Check.bookOf("Zzz1").signNext(25), QuireSigns.BAD_VALUE);
        CHECK.due("signNext: FULL ahead of NOT_POSSIBLE", full().signNext(1), QuireSigns.FULL);
        CHECK.due("insert: UNKNOWN ahead of both", full().insert(41, 6, 25), QuireSigns.UNKNOWN);
        CHECK.due("insert: UNKNOWN ahead of FULL", full().insert(-1, 1, 1), QuireSigns.UNKNOWN);
        CHECK.due("insert: UNKNOWN ahead of BAD_VALUE", some().insert(4, 0, 1), QuireSigns.UNKNOWN);
        CHECK.due("insert: BAD_VALUE (stars) ahead of FULL", full().insert(40, 0, 1), QuireSigns.BAD_VALUE);
        CHECK.due("insert: BAD_VALUE (leaves) ahead of FULL", full().insert(40, 1, 0), QuireSigns.BAD_VALUE);
        CHECK.due("insert: FULL", full().insert(40, 1, 1), QuireSigns.FULL);
    }

    private static void piled(String what, QuireSigns book, String text, int due) {
        CHECK.due("readPile: " + what, Check.readPile(book, text), due);
    }

    private static void ordersOfPiles() {
        CHECK.sentence("the order of the @return line is the order of the checks");
        QuireSigns book = Check.bookOf("A-B4,*2,C4");
        piled("the fault ahead of UNKNOWN", book, "Z1,", -103);
        piled("the fault ahead of NOT_POSSIBLE", book, "A1,A1,", -106);
        piled("the fault ahead of FULL", book, THIRTEEN + ",", -139);
        piled("UNKNOWN ahead of twice", book, "A1,A1,Z1", QuireSigns.UNKNOWN);
        piled("UNKNOWN ahead of FULL", book, THIRTEEN + ",Z1", QuireSigns.UNKNOWN);
        piled("twice ahead of FULL", book, THIRTEEN + ",A1", QuireSigns.NOT_POSSIBLE);
        piled("FULL", book, THIRTEEN, QuireSigns.FULL);
        book.lose(0, true);
        piled("the fault ahead of a lost one", book, "A1,?", -103);
        piled("UNKNOWN ahead of a lost one", book, "A1,Z1", QuireSigns.UNKNOWN);
        piled("a lost one ahead of FULL", book, THIRTEEN, QuireSigns.NOT_POSSIBLE);
    }

    private static void ordersOfWhatIsTold() {
        CHECK.sentence("Where several errors can apply");
        CHECK.due("quire: UNKNOWN ahead", some().quire(3, 7), QuireSigns.UNKNOWN);
        CHECK.due("quire: UNKNOWN ahead", some().quire(-1, -1), QuireSigns.UNKNOWN);
        CHECK.due("leaf: UNKNOWN ahead", some().leaf(10, 6), QuireSigns.UNKNOWN);
        CHECK.due("leaf: UNKNOWN ahead", some().leaf(-1, -1), QuireSigns.UNKNOWN);
        CHECK.due("find: the fault ahead of BAD_VALUE", someWith("A1,A1,").find(), -106);
        CHECK.due("lapse: a bad rank and a bad what", some().lapse(-1, 3), QuireSigns.BAD_VALUE);
        CHECK.due("piled: a bad rank and a bad what", some().piled(-1, 2), QuireSigns.BAD_VALUE);
    }

    private static void noneOnlyWithoutErrors() {
        CHECK.sentence("NONE is no error; it is returned only if no error applies.");
        CHECK.due("leaveOut of ? that is not there", some().leaveOut('?', true), QuireSigns.UNKNOWN);
        CHECK.due("leaveOut of ? that is not out", some().leaveOut('?', false), QuireSigns.UNKNOWN);
        CHECK.due("lose of no leaf", some().lose(10, false), QuireSigns.UNKNOWN);
        CHECK.due("find of several that no leaf has", someWith("Z1,Z2").find(), QuireSigns.BAD_VALUE);
        CHECK.due("find of a fault", someWith("Z25").find(), -102);
        CHECK.due("lapse behind the last one", some().lapse(0, 3), QuireSigns.BAD_VALUE);
        CHECK.due("lapse behind the last one", some().lapse(0, -1), QuireSigns.BAD_VALUE);
        CHECK.due("piled behind the last one", some().piled(2, 2), QuireSigns.BAD_VALUE);
        CHECK.due("piled behind the last one", some().piled(2, -1), QuireSigns.BAD_VALUE);
        CHECK.due("formula ahead of an empty one", new QuireSigns().formula(-1), QuireSigns.BAD_VALUE);
        CHECK.due("the letter of stars", some().quire(2, 1), QuireSigns.NONE);
        CHECK.due("of no quire", some().quire(3, 1), QuireSigns.UNKNOWN);
    }

    // ---- refused calls

    private static void refused(String call, int due, Supplier<QuireSigns> books, ToIntFunction<QuireSigns> calling) {
        QuireSigns book = books.get();
        CHECK.due(call, calling.applyAsInt(book), due);
        CHECK.same("all behind " + call, Face.throughout(book), Face.throughout(books.get()));
    }

    private static void refusedBySome(String call, int due, ToIntFunction<QuireSigns> calling) {
        refused(call, due, ErrorsTest::some, calling);
    }

    private static void changesNothing() {
        CHECK.sentence("A call that returns an error or NONE changes nothing.");
    }

    private static void refusedLeaveOut() {
        changesNothing();
        char[] none = {0, '@', '[', 'a', 'j', 'z', 'A' + 128, 'A' + 256, 65535};
        for (char letter : none) {
            String call = "leaveOut((char) " + (int) letter;
            refusedBySome(call + ", true)", QuireSigns.UNKNOWN, book -> book.leaveOut(letter, true));
            refusedBySome(call + ", false)", QuireSigns.UNKNOWN, book -> book.leaveOut(letter, false));
        }
        refused("leaveOut(M, true)", QuireSigns.NOT_POSSIBLE, ErrorsTest::oneLetter, book -> book.leaveOut('M', true));
        refused("leaveOut(A, true)", QuireSigns.NONE, ErrorsTest::oneLetter, book -> book.leaveOut('A', true));
        refused("leaveOut(M, false)", QuireSigns.NONE, ErrorsTest::oneLetter, book -> book.leaveOut('M', false));
        refusedBySome("leaveOut(A, false)", QuireSigns.NONE, book -> book.leaveOut('A', false));
        refusedBySome("leaveOut(Z, false)", QuireSigns.NONE, book -> book.leaveOut('Z', false));
        refusedBySome("leaveOut(J, true)", QuireSigns.NONE, book -> book.leaveOut('J', true));
    }

    private static void refusedSetSigning() {
        changesNothing();
        for (int signing : NOT_0_TO_2) {
            refusedBySome("setSigning(" + signing + ")", QuireSigns.BAD_VALUE, book -> book.setSigning(signing));
        }
        refusedBySome("setSigning(0)", QuireSigns.NONE, book -> book.setSigning(0));
        CHECK.due("setSigning(1) of a new book", new QuireSigns().setSigning(1), QuireSigns.NONE);
    }

    private static void refusedReadFormula() {
        changesNothing();
        String[] texts = {"", "C", "C-", "C-B1", "C1,", "C25", "C1,J1", "C1,D1,*"};
        int[] faults = {0, 1, 2, 2, 3, 2, 3, 7};
        for (int i = 0; i < texts.length; i++) {
            String text = texts[i];
            refused("readFormula() of '" + text + "'", -100 - faults[i], () -> someWith(text), QuireSigns::readFormula);
        }
        refused("readFormula() of a full book", QuireSigns.FULL, () -> fullWith("A1"), QuireSigns::readFormula);
        refused("readFormula() of 38 more", QuireSigns.FULL, () -> someWith("A-Z1,A-P1"), QuireSigns::readFormula);
        CHECK.due("readFormula() of 37 more", someWith("A-Z1,A-O1").readFormula(), 40);
    }

    private static void refusedSignNext() {
        changesNothing();
        for (int leaves : NOT_1_TO_24) {
            refusedBySome("signNext(" + leaves + ")", QuireSigns.BAD_VALUE, book -> book.signNext(leaves));
        }
        refused("signNext(1) of a full book", QuireSigns.FULL, ErrorsTest::full, book -> book.signNext(1));
        Supplier<QuireSigns> last = () -> Check.bookOf("A2,Zzz1,*1");
        refused("signNext(1) behind Zzz", QuireSigns.NOT_POSSIBLE, last, book -> book.signNext(1));
    }

    private static void refusedInsert() {
        changesNothing();
        int[] quires = {Integer.MIN_VALUE, -1, 4, Integer.MAX_VALUE};
        for (int quire : quires) {
            refusedBySome("insert(" + quire + ", 1, 1)", QuireSigns.UNKNOWN, book -> book.insert(quire, 1, 1));
        }
        int[] stars = {Integer.MIN_VALUE, -1, 0, 6, Integer.MAX_VALUE};
        for (int many : stars) {
            refusedBySome("insert(0, " + many + ", 1)", QuireSigns.BAD_VALUE, book -> book.insert(0, many, 1));
        }
        for (int leaves : NOT_1_TO_24) {
            refusedBySome("insert(3, 5, " + leaves + ")", QuireSigns.BAD_VALUE, book -> book.insert(3, 5, leaves));
        }
        refused("insert(0, 1, 1) of a full book", QuireSigns.FULL, ErrorsTest::full, book -> book.insert(0, 1, 1));
        refused("insert(40, 1, 1) of a full book", QuireSigns.FULL, ErrorsTest::full, book -> book.insert(40, 1, 1));
    }

    private static void refusedRemoveAndLose() {
        changesNothing();
        int[] quires = {Integer.MIN_VALUE, -1, 3, Integer.MAX_VALUE};
        for (int quire : quires) {
            refusedBySome("remove(" + quire + ")", QuireSigns.UNKNOWN, book -> book.remove(quire));
        }
        int[] leaves = {Integer.MIN_VALUE, -1, 10, Integer.MAX_VALUE};
        for (int leaf : leaves) {
            refusedBySome("lose(" + leaf + ", true)", QuireSigns.UNKNOWN, book -> book.lose(leaf, true));
            refusedBySome("lose(" + leaf + ", false)", QuireSigns.UNKNOWN, book -> book.lose(leaf, false));
        }
        refusedBySome("lose(7, true)", QuireSigns.NONE, book -> book.lose(7, true));
        refusedBySome("lose(0, false)", QuireSigns.NONE, book -> book.lose(0, false));
        refusedBySome("lose(9, false)", QuireSigns.NONE, book -> book.lose(9, false));
        refused("remove(0) of none", QuireSigns.UNKNOWN, QuireSigns::new, book -> book.remove(0));
        refused("lose(0, true) of none", QuireSigns.UNKNOWN, QuireSigns::new, book -> book.lose(0, true));
    }

    private static void refusedReadPile() {
        changesNothing();
        String[] texts = {"", "A", "A0", "A2,", "A-B1", "C1", "A5", "*3", "A2,C1", "B4", "A2,B4", "A2,A2", "A2,*1,A2"};
        int[] due = {-100, -101, -101, -103, -101, -1, -1, -1, -1, -4, -4, -4, -4};
        for (int i = 0; i < texts.length; i++) {
            String text = texts[i];
            refused("readPile() of '" + text + "'", due[i], () -> someWith(text), QuireSigns::readPile);
        }
        refused("readPile() of thirteen", QuireSigns.FULL, ErrorsTest::thirteenTold, QuireSigns::readPile);
    }

    private static QuireSigns thirteenTold() {
        QuireSigns book = Check.bookOf("A-B4,*2,C4");
        Check.readPile(book, "A1,B2");
        Check.put(book, THIRTEEN);
        return book;
    }

    private static void refusedTypeUndoRestore() {
        changesNothing();
        Supplier<QuireSigns> typed = () -> someWith("B3,".repeat(20));
        refused("type(A) behind 60", QuireSigns.FULL, typed, book -> book.type('A'));
        refused("undo() of none", QuireSigns.NONE, ErrorsTest::undone, QuireSigns::undo);
        refused("restore() of none", QuireSigns.NONE, () -> Check.bookOf("A4"), QuireSigns::restore);
        refused("restore() of an empty book", QuireSigns.NONE, QuireSigns::new, QuireSigns::restore);
    }

    private static QuireSigns undone() {
        QuireSigns book = Check.bookOf("A-B4");
        book.keep();
        book.signNext(3);
        book.undo();
        book.undo();
        Check.put(book, "A1");
        return book;
    }

    private static void refusedQuireAndLeaf() {
        changesNothing();
        int[] far = {Integer.MIN_VALUE, -1, 10, Integer.MAX_VALUE};
        for (int none : far) {
            refusedBySome("quire(" + none + ", 0)", QuireSigns.UNKNOWN, book -> book.quire(none, 0));
            refusedBySome("quire(2, " + none + ")", QuireSigns.BAD_VALUE, book -> book.quire(2, none));
            refusedBySome("leaf(" + none + ", 0)", QuireSigns.UNKNOWN, book -> book.leaf(none, 0));
            refusedBySome("leaf(9, " + none + ")", QuireSigns.BAD_VALUE, book -> book.leaf(9, none));
        }
        refusedBySome("quire(3, 0)", QuireSigns.UNKNOWN, book -> book.quire(3, 0));
        refusedBySome("quire(0, 7)", QuireSigns.BAD_VALUE, book -> book.quire(0, 7));
        refusedBySome("leaf(0, 6)", QuireSigns.BAD_VALUE, book -> book.leaf(0, 6));
        refused("quire(0, 0) of none", QuireSigns.UNKNOWN, QuireSigns::new, book -> book.quire(0, 0));
        refused("leaf(0, 0) of none", QuireSigns.UNKNOWN, QuireSigns::new, book -> book.leaf(0, 0));
    }

    private static void refusedFind() {
        changesNothing();
        String[] texts = {"", "A", "A1,", "A-B1", "A1,A2", "A1,A1", "C1", "A5", "*3", "**1", "J1"};
        int[] due = {-100, -101, -103, -101, -2, -2, -5, -5, -5, -5, -5};
        for (int i = 0; i < texts.length; i++) {
            String text = texts[i];
            refused("find() of '" + text + "'", due[i], () -> someWith(text), QuireSigns::find);
        }
    }

    private static void refusedRanks() {
        changesNothing();
        int[] low = {Integer.MIN_VALUE, -1};
        for (int rank : low) {
            refusedBySome("lapse(" + rank + ", 0)", QuireSigns.BAD_VALUE, book -> book.lapse(rank, 0));
            refusedBySome("piled(" + rank + ", 0)", QuireSigns.BAD_VALUE, book -> book.piled(rank, 0));
        }
        for (int what : NOT_0_TO_2) {
            refused("lapse(0, " + what + ")", QuireSigns.BAD_VALUE, () -> Check.bookOf("A1,A1"), book -> book.lapse(0, what));
            refusedBySome("piled(0, " + what + ")", QuireSigns.BAD_VALUE, book -> book.piled(0, what));
        }
        refusedBySome("piled(0, 2)", QuireSigns.BAD_VALUE, book -> book.piled(0, 2));
        refusedBySome("lapse(0, 2)", QuireSigns.NONE, book -> book.lapse(0, 2));
        refusedBySome("lapse(the greatest, 0)", QuireSigns.NONE, book -> book.lapse(Integer.MAX_VALUE, 0));
        refusedBySome("piled(2, 0)", QuireSigns.NONE, book -> book.piled(2, 0));
        refusedBySome("piled(1, 1)", QuireSigns.NONE, book -> book.piled(1, 1));
        refusedBySome("piled(the greatest, 1)", QuireSigns.NONE, book -> book.piled(Integer.MAX_VALUE, 1));
    }

    private static void refusedSheetsFormulaCount() {
        changesNothing();
        int[] folds = {Integer.MIN_VALUE, -12, -2, -1, 0, 1, 3, 5, 6, 7, 9, 10, 11, 13, 16, 24, Integer.MAX_VALUE};
        for (int fold : folds) {
            refusedBySome("sheets(" + fold + ")", QuireSigns.BAD_VALUE, book -> book.sheets(fold));
        }
        int[] what = {Integer.MIN_VALUE, -1, 13, Integer.MAX_VALUE};
        for (int none : what) {
            refusedBySome("count(" + none + ")", QuireSigns.BAD_VALUE, book -> book.count(none));
        }
        refusedBySome("formula(-1)", QuireSigns.BAD_VALUE, book -> book.formula(-1));
        refusedBySome("formula(the least)", QuireSigns.BAD_VALUE, book -> book.formula(Integer.MIN_VALUE));
        refusedBySome("formula(7)", QuireSigns.NONE, book -> book.formula(7));
        refusedBySome("formula(the greatest)", QuireSigns.NONE, book -> book.formula(Integer.MAX_VALUE));
        refused("formula(0) of none", QuireSigns.NONE, QuireSigns::new, book -> book.formula(0));
    }
}
