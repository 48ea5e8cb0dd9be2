/** Compares answers with those that are due and ends a test. */
final class Check {
    private final String test;
    private int calls;
    private int wrong;

    Check(String test) {
        this.test = test;
    }

    void due(String what, long got, long want) {
        calls++;
        if (got != want) {
            wrong++;
            System.out.println(test + ": " + what + " answered " + got + ", due is " + want);
        }
    }

    /** The text that the formula of a book is, read character by character. */
    static String formulaOf(QuireSigns book) {
        StringBuilder formula = new StringBuilder();
        for (int i = 0; book.formula(i) != QuireSigns.NONE; i++) {
            formula.append((char) book.formula(i));
        }
        return formula.toString();
    }

    void formula(QuireSigns book, String want) {
        String got = formulaOf(book);
        calls++;
        if (!got.equals(want)) {
            wrong++;
            System.out.println(test + ": the formula is " + got + ", due is " + want);
        }
    }

    /** Makes the text of the book this one. */
    static void put(QuireSigns book, String text) {
        book.clearText();
        for (char character : text.toCharArray()) {
            book.type(character);
        }
    }

    static int readFormula(QuireSigns book, String text) {
        put(book, text);
        return book.readFormula();
    }

    static int readPile(QuireSigns book, String text) {
        put(book, text);
        return book.readPile();
    }

    static int find(QuireSigns book, String text) {
        put(book, text);
        return book.find();
    }

    static QuireSigns bookOf(String formula) {
        QuireSigns book = new QuireSigns();
        if (readFormula(book, formula) < 0) {
            throw new IllegalStateException("no formula: " + formula);
        }
        book.clearText();
        return book;
    }

    void end() {
        System.out.println(test + ": " + calls + " answers, " + wrong + " of them wrong");
        if (wrong != 0) {
            System.exit(1);
        }
    }
}
