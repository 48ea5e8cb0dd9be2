import java.util.List;
import java.util.function.ToIntFunction;

/** The terms of the document, sentence by sentence, at their bounds: history, states, snapshot. */
final class HistoryTermsTest {
    private static final Check CHECK = new Check("HistoryTermsTest");

    public static void main(String[] args) {
        fourStates();
        oldestIsDropped();
        undoRestoresTheLatest();
        actsRecord();
        othersRecordNothing();
        oneSnapshot();
        partsOfAState();
        whatIsNoPartOfAState();
        actsThatEmptyThePile();
        actsThatLeaveThePile();
        callsUpTo512();
        callsBehind512();
        CHECK.end();
    }

    /** A book that every act can change: a pile of A1 and B2, B4 is lost, the text is "C4". */
    private static QuireSigns bookWithAll() {
        QuireSigns book = Check.bookOf("A-B4,*2");
        book.lose(7, true);
        Check.readPile(book, "A1,B2");
        book.keep();
        Check.put(book, "C4");
        return book;
    }

    private static void fourStates() {
        CHECK.sentence("A history of at most 4 states is kept");
        QuireSigns book = new QuireSigns();
        CHECK.due("states at first", book.count(11), 0);
        CHECK.due("undo at first", book.undo(), QuireSigns.NONE);
        for (int quire = 0; quire < 7; quire++) {
            book.signNext(1);
            CHECK.due("states", book.count(11), Math.min(quire + 1, 4));
        }
        for (int left = 3; left >= 0; left--) {
            CHECK.due("undo", book.undo(), left);
            CHECK.due("states", book.count(11), left);
        }
        CHECK.due("a fifth undo", book.undo(), QuireSigns.NONE);
        CHECK.due("states", book.count(11), 0);
    }

    private static void oldestIsDropped() {
        CHECK.sentence("when one more is recorded, the oldest one is dropped");
        QuireSigns exact = new QuireSigns();
        for (int leaves = 1; leaves <= 4; leaves++) {
            exact.signNext(leaves);
        }
        undoAll(exact);
        CHECK.due("four acts: the empty book is kept", exact.count(0), 0);
        QuireSigns more = new QuireSigns();
        for (int leaves = 1; leaves <= 5; leaves++) {
            more.signNext(leaves);
        }
        undoAll(more);
        CHECK.due("five acts: it is dropped", more.count(0), 1);
        CHECK.due("its leaves", more.count(1), 1);
        for (int leaves = 2; leaves <= 24; leaves++) {
            more.signNext(leaves);
        }
        undoAll(more);
        CHECK.due("23 acts more: four are undone", more.count(0), 20);
        CHECK.due("the leaves of the last one", more.quire(19, 2), 20);
    }

    private static void undoAll(QuireSigns book) {
        for (int i = 0; i < 4; i++) {
            book.undo();
        }
    }

    private static void undoRestoresTheLatest() {
        CHECK.sentence("undo() removes and restores the latest one");
        QuireSigns book = new QuireSigns();
        for (int leaves = 1; leaves <= 6; leaves++) {
            book.signNext(leaves);
        }
        for (int quires = 5; quires >= 2; quires--) {
            book.undo();
            CHECK.due("quires", book.count(0), quires);
            CHECK.due("the leaves of the last one", book.quire(quires - 1, 2), quires);
        }
        book.signNext(20);
        book.undo();
        CHECK.due("an act between is undone alone", book.count(1), 3);
        book.signNext(9);
        book.remove(0);
        book.undo();
        CHECK.due("the latest of both", book.count(1), 12);
    }

    private static void records(String act, QuireSigns book, ToIntFunction<QuireSigns> call) {
        String before = Face.of(book);
        int states = book.count(11);
        CHECK.due(act + " is no error", call.applyAsInt(book) >= 0 ? 1 : 0, 1);
        CHECK.due(act + " records one state", book.count(11), states + 1);
        CHECK.due(act + " is undone", book.undo(), states);
        CHECK.same(act + " and undo", Face.of(book), before);
    }

    private static void actsRecord() {
        CHECK.sentence("Each call of a method that is described as an act,"
                + " and returns no error and not NONE, records the state that was before it.");
        records("leaveOut(B, true)", bookWithAll(), book -> book.leaveOut('B', true));
        records("leaveOut(J, false)", bookWithAll(), book -> book.leaveOut('J', false));
        records("setSigning(2)", bookWithAll(), book -> book.setSigning(2));
        records("readFormula()", bookWithAll(), QuireSigns::readFormula);
        records("signNext(3)", bookWithAll(), book -> book.signNext(3));
        records("insert(1, 2, 3)", bookWithAll(), book -> book.insert(1, 2, 3));
        records("remove(0)", bookWithAll(), book -> book.remove(0));
        records("lose(0, true)", bookWithAll(), book -> book.lose(0, true));
        records("lose(7, false)", bookWithAll(), book -> book.lose(7, false));
        QuireSigns other = bookWithAll();
        Check.put(other, "A2");
        records("readPile()", other, QuireSigns::readPile);
        QuireSigns same = bookWithAll();
        Check.put(same, "A1,B2");
        records("readPile() of the same pile", same, QuireSigns::readPile);
        records("restore()", bookWithAll(), QuireSigns::restore);
    }

    private static void othersRecordNothing() {
        CHECK.sentence("Each call of a method that is described as an act");
        List<ToIntFunction<QuireSigns>> others = List.of(book -> book.type('1'), QuireSigns::clearText,
                QuireSigns::keep, book -> book.quire(0, 0), book -> book.leaf(0, 0),
                book -> Check.find(book, "A1"), book -> book.lapse(0, 0), book -> book.piled(0, 0),
                book -> book.sheets(2), book -> book.formula(0), book -> book.count(0));
        for (int i = 0; i < others.size(); i++) {
            QuireSigns book = bookWithAll();
            others.get(i).applyAsInt(book);
            CHECK.due("states behind call " + i + ", which is no act", book.count(11), 3);
        }
    }

    private static void oneSnapshot() {
        CHECK.sentence("There is one snapshot, empty at first.");
        QuireSigns book = new QuireSigns();
        CHECK.due("restore at first", book.restore(), QuireSigns.NONE);
        CHECK.due("keep an empty book", book.keep(), 0);
        CHECK.due("which is a snapshot", book.restore(), 0);
        book.signNext(1);
        CHECK.due("keep one quire", book.keep(), 1);
        book.signNext(1);
        CHECK.due("keep two", book.keep(), 2);
        book.remove(0);
        book.remove(0);
        CHECK.due("two", book.restore(), 2);
        CHECK.due("two again", book.restore(), 2);
        QuireSigns undone = new QuireSigns();
        undone.signNext(1);
        undone.keep();
        undoAll(undone);
        CHECK.due("undo leaves it", undone.restore(), 1);
    }

    private static void partsOfAState() {
        CHECK.sentence("A state is everything but the text, the history and the snapshot.");
        QuireSigns book = bookWithAll();
        String kept = Face.stateOf(book);
        book.leaveOut('B', true);
        book.setSigning(2);
        book.insert(0, 3, 5);
        book.lose(6, true);
        book.restore();
        CHECK.same("restore behind four acts", Face.stateOf(book), kept);
        book.undo();
        CHECK.due("the letters before", book.count(4), 22);
        CHECK.due("the signing before", book.count(10), 2);
        CHECK.due("the quires before", book.count(0), 4);
        CHECK.due("those lost before", book.count(2), 2);
        CHECK.due("the pile before", book.count(9), 0);
        book.undo();
        book.undo();
        book.undo();
        CHECK.due("the pile before the insert", book.count(9), 2);
        CHECK.due("the signing before setSigning", book.count(10), 1);
        CHECK.due("B is out still, as the oldest state was dropped", book.leaveOut('B', true), QuireSigns.NONE);
    }

    private static void whatIsNoPartOfAState() {
        CHECK.sentence("everything but the text, the history and the snapshot");
        QuireSigns book = new QuireSigns();
        Check.put(book, "A1");
        book.keep();
        book.signNext(2);
        Check.put(book, "A2");
        book.undo();
        CHECK.due("the text behind undo", book.count(12), 2);
        book.signNext(2);
        CHECK.due("it is A2", book.find(), 1);
        book.restore();
        CHECK.due("the text behind restore", book.count(12), 2);
        CHECK.due("the history behind restore", book.count(11), 2);
        book.undo();
        CHECK.due("it is A2 still", book.find(), 1);
        book.keep();
        book.undo();
        CHECK.due("the snapshot behind undo", book.restore(), 1);
    }

    private static void empties(String act, ToIntFunction<QuireSigns> call) {
        QuireSigns book = bookWithAll();
        CHECK.due("the pile ahead of " + act, book.count(9), 2);
        CHECK.due(act + " is no error", call.applyAsInt(book) >= 0 ? 1 : 0, 1);
        CHECK.due("the pile behind " + act, book.count(9), 0);
        CHECK.due("its first leaf behind " + act, book.piled(0, 0), QuireSigns.NONE);
        book.undo();
        CHECK.due("the pile behind undo of " + act, book.count(9), 2);
    }

    private static void actsThatEmptyThePile() {
        CHECK.sentence("An act that adds or removes quires, or loses or finds a leaf, empties the pile.");
        empties("readFormula()", QuireSigns::readFormula);
        empties("signNext(1)", book -> book.signNext(1));
        empties("insert behind the last quire", book -> book.insert(3, 1, 1));
        empties("insert ahead of the first quire", book -> book.insert(0, 1, 1));
        empties("remove of a quire without piled leaves", book -> book.remove(2));
        empties("remove of one with them", book -> book.remove(0));
        empties("lose of a leaf that is not piled", book -> book.lose(9, true));
        empties("lose of a piled one", book -> book.lose(0, true));
        empties("finding a leaf", book -> book.lose(7, false));
    }

    private static void leaves(String call, QuireSigns book, int answer) {
        CHECK.due(call + " is told", answer == QuireSigns.UNKNOWN ? 1 : 0, 0);
        CHECK.due("the pile behind " + call, book.count(9), 2);
        CHECK.due("its first leaf behind " + call, book.piled(0, 0), 0);
        CHECK.due("its second leaf behind " + call, book.piled(1, 0), 5);
    }

    private static void actsThatLeaveThePile() {
        CHECK.sentence("An act that adds or removes quires, or loses or finds a leaf");
        QuireSigns book = bookWithAll();
        leaves("leaveOut(B, true)", book, book.leaveOut('B', true));
        leaves("leaveOut(B, false)", book, book.leaveOut('B', false));
        leaves("setSigning(0)", book, book.setSigning(0));
        leaves("restore() of a state with this pile", book, book.restore());
        leaves("undo() of it", book, book.undo());
        leaves("keep()", book, book.keep());
        leaves("clearText()", book, book.clearText());
        leaves("type(A)", book, book.type('A'));
        leaves("find() of a fault", book, book.find());
    }

    private static void callsUpTo512() {
        CHECK.sentence("An object is used for at most 512 calls after it has been made");
        QuireSigns acts = new QuireSigns();
        acts.signNext(2);
        for (int call = 2; call <= 511; call++) {
            CHECK.due("call " + call, acts.lose(1, call % 2 == 0), call % 2 == 0 ? 1 : 2);
        }
        CHECK.due("call 512", acts.undo(), 3);
        QuireSigns typed = new QuireSigns();
        for (int call = 1; call <= 511; call++) {
            typed.type('A');
        }
        CHECK.due("call 512", typed.clearText(), 60);
    }

    private static void callsBehind512() {
        CHECK.sentence("what later calls answer is free");
        QuireSigns book = bookWithAll();
        int answers = 0;
        for (int call = 0; call < 5000; call++) {
            // No answer is due, but that each call comes back is a rule of LANGUAGE.md.
            int[] told = {book.signNext(call % 26), book.lose(call, call % 3 == 0), book.readPile(), book.undo(),
                book.keep(), book.restore(), book.type((char) call), book.readFormula(), book.formula(call)};
            answers += told.length;
        }
        CHECK.due("calls that come back", answers, 45000);
    }
}
