import java.io.IOException;
import java.io.UncheckedIOException;
import java.nio.file.Files;
import java.nio.file.Path;

/** Compares answers with those that are due and ends a test. */
final class Check {
    private static final Path DOCUMENT = Path.of("../shared/DOC.md");
    private static final String WORDS = words();

    private final String test;
    private String sentence = "";
    private int sentences;
    private int calls;
    private int wrong;

    Check(String test) {
        this.test = test;
    }

    /**
     * Tells by which words of the document the next answers are due. The words are to stand there:
     * if the document is changed, the tests of the changed sentences are to be read again.
     */
    void sentence(String words) {
        sentence = " \"" + words + "\":";
        sentences++;
        if (!WORDS.contains(words)) {
            wrong++;
            System.out.println(test + ":" + sentence + " does not stand in the document");
        }
    }

    private static String words() {
        try {
            return Files.readString(DOCUMENT);
        } catch (IOException e) {
            throw new UncheckedIOException(e);
        }
    }

    void due(String what, long got, long want) {
        calls++;
        if (got != want) {
            wrong++;
            System.out.println(test + ":" + sentence + " " + what + " answered " + got + ", due is " + want);
        }
    }

    /** The text that the formula of a book is, read character by character. */
    static String formulaOf(QuireSigns book) {
        StringBuilder formula = new StringBuilder();
        int character = book.formula(0);
        while (character != QuireSigns.NONE && formula.length() < 400) {
            formula.append((char) character);
            character = book.formula(formula.length());
        }
        return formula.toString();
    }

    void formula(QuireSigns book, String want) {
        same("the formula", formulaOf(book), want);
    }

    void same(String what, String got, String want) {
        calls++;
        if (!got.equals(want)) {
            wrong++;
            System.out.println(test + ":" + sentence + " " + what + " is " + got + ", due is " + want);
        }
    }

    /** Makes the text of the book this one. */
    static void put(QuireSigns book, String text) {
        book.clearText();
        for (char character : text.toCharArray()) {
            book.type(character);
        }
    }

    static int readFormula(QuireSigns book, String text) {
        put(book, text);
        return book.readFormula();
    }

    static int readPile(QuireSigns book, String text) {
        put(book, text);
        return book.readPile();
    }

    static int find(QuireSigns book, String text) {
        put(book, text);
        return book.find();
    }

    static QuireSigns bookOf(String formula) {
        QuireSigns book = new QuireSigns();
        if (readFormula(book, formula) < 0) {
            throw new IllegalStateException("no formula: " + formula);
        }
        book.clearText();
        return book;
    }

    void end() {
        String told = sentences == 0 ? "" : " by " + sentences + " sentences";
        System.out.println(test + ": " + calls + " answers" + told + ", " + wrong + " of them wrong");
        if (wrong != 0) {
            System.exit(1);
        }
    }
}
