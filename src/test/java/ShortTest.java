import java.util.List;
import java.util.function.ToIntFunction;

/**
 * Every short text, and every short run of calls, on a QuireSigns and on a PlainBook: what random
 * runs could miss is not missed here.
 */
final class ShortTest {
    private static final Check CHECK = new Check("ShortTest");
    private static final int LONGEST_TEXT = 5;
    private static final int LONGEST_RUN = 3;
    /** Letters that are in and one that is out, with their small ones; digits at the bounds of 1 to 24. */
    private static final char[] CHARACTERS = "ABJabj*-,0124".toCharArray();

    private record Call(String name, ToIntFunction<QuireSigns> ofBook, ToIntFunction<PlainBook> ofPlain) {
    }

    private static final List<Call> CALLS = List.of(
            new Call("leaveOut A", book -> book.leaveOut('A', true), plain -> plain.leaveOut('A', true)),
            new Call("leaveOut B", book -> book.leaveOut('B', true), plain -> plain.leaveOut('B', true)),
            new Call("take in B", book -> book.leaveOut('B', false), plain -> plain.leaveOut('B', false)),
            new Call("setSigning(0)", book -> book.setSigning(0), plain -> plain.setSigning(0)),
            new Call("setSigning(2)", book -> book.setSigning(2), plain -> plain.setSigning(2)),
            formula("A-C2"),
            formula("C3,Aa2,*1"),
            formula("Zzz1"),
            new Call("signNext(2)", book -> book.signNext(2), plain -> plain.signNext(2)),
            new Call("insert(0, 1, 1)", book -> book.insert(0, 1, 1), plain -> plain.insert(0, 1, 1)),
            new Call("insert(1, 2, 3)", book -> book.insert(1, 2, 3), plain -> plain.insert(1, 2, 3)),
            new Call("remove(0)", book -> book.remove(0), plain -> plain.remove(0)),
            new Call("remove(1)", book -> book.remove(1), plain -> plain.remove(1)),
            new Call("lose 0", book -> book.lose(0, true), plain -> plain.lose(0, true)),
            new Call("lose 2", book -> book.lose(2, true), plain -> plain.lose(2, true)),
            new Call("find 0 again", book -> book.lose(0, false), plain -> plain.lose(0, false)),
            pile("A1,B2"),
            pile("C2,A2,C1"),
            new Call("undo()", QuireSigns::undo, PlainBook::undo),
            new Call("keep()", QuireSigns::keep, PlainBook::keep),
            new Call("restore()", QuireSigns::restore, PlainBook::restore),
            new Call("find()", QuireSigns::find, PlainBook::find));

    public static void main(String[] args) {
        for (int length = 0; length <= LONGEST_TEXT; length++) {
            texts("", length);
        }
        for (int length = 0; length <= LONGEST_RUN; length++) {
            runs(new Call[length], 0);
        }
        CHECK.end();
    }

    private static Call formula(String text) {
        return new Call("readFormula() of " + text,
                book -> Check.readFormula(book, text),
                plain -> {
                    put(plain, text);
                    return plain.readFormula();
                });
    }

    private static Call pile(String text) {
        return new Call("readPile() of " + text,
                book -> Check.readPile(book, text),
                plain -> {
                    put(plain, text);
                    return plain.readPile();
                });
    }

    private static void put(PlainBook plain, String text) {
        plain.clearText();
        for (char character : text.toCharArray()) {
            plain.type(character);
        }
    }

    private static void texts(String text, int left) {
        if (left == 0) {
            read(text);
            return;
        }
        for (char character : CHARACTERS) {
            texts(text + character, left - 1);
        }
    }

    private static void read(String text) {
        QuireSigns book = new QuireSigns();
        PlainBook plain = new PlainBook();
        Check.put(book, text);
        put(plain, text);
        CHECK.due("find() of " + text, book.find(), plain.find());
        CHECK.due("readPile() of " + text, book.readPile(), plain.readPile());
        CHECK.due("readFormula() of " + text, book.readFormula(), plain.readFormula());
        quires("the formula " + text, book, plain);
    }

    private static void runs(Call[] run, int at) {
        if (at == run.length) {
            go(run);
            return;
        }
        for (Call call : CALLS) {
            run[at] = call;
            runs(run, at + 1);
        }
    }

    private static void go(Call[] run) {
        QuireSigns book = new QuireSigns();
        PlainBook plain = new PlainBook();
        StringBuilder told = new StringBuilder();
        for (Call call : run) {
            told.append(call.name).append("; ");
            CHECK.due(told.toString(), call.ofBook.applyAsInt(book), call.ofPlain.applyAsInt(plain));
        }
        all(told.toString(), book, plain);
    }

    private static void quires(String told, QuireSigns book, PlainBook plain) {
        for (int quire = 0; quire <= plain.count(0); quire++) {
            for (int what = 0; what <= 7; what++) {
                CHECK.due(told + " quire(" + quire + ", " + what + ")", book.quire(quire, what), plain.quire(quire, what));
            }
        }
    }

    /** Every answer that tells something of a book. */
    private static void all(String told, QuireSigns book, PlainBook plain) {
        for (int what = 0; what <= 13; what++) {
            CHECK.due(told + "count(" + what + ")", book.count(what), plain.count(what));
        }
        quires(told, book, plain);
        for (int leaf = 0; leaf <= plain.count(1); leaf++) {
            for (int what = 0; what <= 6; what++) {
                CHECK.due(told + "leaf(" + leaf + ", " + what + ")", book.leaf(leaf, what), plain.leaf(leaf, what));
            }
        }
        for (int rank = 0; rank <= plain.count(6); rank++) {
            for (int what = 0; what <= 3; what++) {
                CHECK.due(told + "lapse(" + rank + ", " + what + ")", book.lapse(rank, what), plain.lapse(rank, what));
            }
        }
        for (int rank = 0; rank <= plain.count(9); rank++) {
            for (int what = 0; what <= 2; what++) {
                CHECK.due(told + "piled(" + rank + ", " + what + ")", book.piled(rank, what), plain.piled(rank, what));
            }
        }
        for (int index = 0; index <= plain.count(7); index++) {
            CHECK.due(told + "formula(" + index + ")", book.formula(index), plain.formula(index));
        }
        for (int fold = 1; fold <= 13; fold++) {
            CHECK.due(told + "sheets(" + fold + ")", book.sheets(fold), plain.sheets(fold));
        }
    }
}
