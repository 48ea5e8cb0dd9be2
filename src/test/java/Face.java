/** All that a small book tells, as one text: two books with the same face answer alike. */
final class Face {
    private final QuireSigns book;
    private final StringBuilder face = new StringBuilder();

    private Face(QuireSigns book) {
        this.book = book;
    }

    /** Some 100 calls for a book of three quires and ten leaves. */
    static String of(QuireSigns book) {
        String told = " states " + book.count(11) + ", text " + book.count(12) + " finds " + book.find();
        return stateOf(book) + told;
    }

    /** A large book is told by its counts and its last quire alone: an object is made for 512 calls. */
    static String stateOf(QuireSigns book) {
        Face one = new Face(book);
        one.counts();
        one.pile();
        int quires = book.count(0);
        if (quires > 4) {
            one.quire(quires - 1);
            return one.face.toString();
        }
        for (int quire = 0; quire < quires; quire++) {
            one.quire(quire);
        }
        one.leaves();
        one.face.append(" formula ").append(Check.formulaOf(book));
        return one.face.toString();
    }

    /** All of a book, its history and its snapshot with it; the book is used up then. */
    static String throughout(QuireSigns book) {
        StringBuilder all = new StringBuilder(of(book));
        for (int left = book.undo(); left != QuireSigns.NONE; left = book.undo()) {
            all.append("; undo ").append(left).append(' ').append(stateOf(book));
        }
        all.append("; restore ").append(book.restore()).append(' ').append(stateOf(book)).append("; out");
        for (char letter = 'A'; letter <= 'Z'; letter++) {
            if (book.leaveOut(letter, true) == QuireSigns.NONE) {
                all.append(' ').append(letter);
            }
        }
        return all.toString();
    }

    private void counts() {
        face.append("counts");
        for (int what = 0; what <= 10; what++) {
            tell(book.count(what));
        }
    }

    private void quire(int quire) {
        face.append(" quire");
        for (int what = 0; what <= 2; what++) {
            tell(book.quire(quire, what));
        }
    }

    private void leaves() {
        face.append(" lost");
        int leaves = book.count(1);
        for (int leaf = 0; leaf < leaves; leaf++) {
            tell(book.leaf(leaf, 4));
        }
    }

    private void pile() {
        face.append(" pile");
        int leaves = book.count(9);
        for (int rank = 0; rank < leaves; rank++) {
            tell(book.piled(rank, 0));
        }
    }

    private void tell(int answer) {
        face.append(' ').append(answer);
    }
}
