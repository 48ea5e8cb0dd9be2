/** The words of promises 15 to 22, one after the other, at the bounds that they name. */
final class ToldEdgesTest {
    private static final Check CHECK = new Check("ToldEdgesTest");

    public static void main(String[] args) {
        promise15Quire();
        promise15Numbers();
        promise15Letter();
        promise15Same();
        promise16Leaf();
        promise16HangingAndLost();
        promise16Ahead();
        promise17Find();
        promise17SeveralSigns();
        promise18Ranks();
        promise18Errors();
        promise18Widths();
        promise19Ranks();
        promise19Errors();
        promise19Between();
        promise20Folds();
        promise20RoundedUp();
        promise21Entries();
        promise21LettersAsOften();
        promise21AlphabetAsItIsNow();
        promise21Index();
        promise22Errors();
        promise22Counts();
        promise22FullBook();
        promise22LengthOrEntriesAlone();
        CHECK.end();
    }

    private static QuireSigns fullOf(int stars, int leaves) {
        QuireSigns book = new QuireSigns();
        for (int quire = 0; quire < 40; quire++) {
            book.insert(quire, stars, leaves);
        }
        return book;
    }

    private static void quireTells(QuireSigns book, int quire, int... due) {
        for (int what = 0; what < due.length; what++) {
            CHECK.due("quire(" + quire + ", " + what + ")", book.quire(quire, what), due[what]);
        }
    }

    private static void promise15Quire() {
        CHECK.sentence("Returns the number; UNKNOWN; BAD_VALUE.");
        QuireSigns full = fullOf(5, 24);
        full.lose(959, true);
        quireTells(full, 0, 5, QuireSigns.NONE, 24, 0, 13, 24, 0, QuireSigns.BAD_VALUE);
        quireTells(full, 39, 5, QuireSigns.NONE, 24, 936, 13, 23, 39, QuireSigns.BAD_VALUE);
        quireTells(full, 40, QuireSigns.UNKNOWN, QuireSigns.UNKNOWN);
        QuireSigns one = Check.bookOf("Zzz1");
        quireTells(one, 0, 3, 'Z', 1, 0, 1, 1, 0, QuireSigns.BAD_VALUE);
        CHECK.due("quire(0, -1)", one.quire(0, -1), QuireSigns.BAD_VALUE);
        quireTells(one, -1, QuireSigns.UNKNOWN);
        quireTells(one, 1, QuireSigns.UNKNOWN);
        one.lose(0, true);
        CHECK.due("none is there", one.quire(0, 5), 0);
        CHECK.due("the lost one is signed", one.quire(0, 4), 1);
    }

    private static void promise15Numbers() {
        CHECK.sentence("2 for its leaves, 3 for its first leaf, 4 for how many of its leaves are signed,"
                + " 5 for how many of them are there");
        QuireSigns book = Check.bookOf("*1,A24,B2");
        for (int leaf = 1; leaf <= 24; leaf++) {
            book.lose(leaf, true);
            CHECK.due("those of A that are there", book.quire(1, 5), 24 - leaf);
        }
        int[][] due = {{1, 0, 1, 1}, {24, 1, 13, 0}, {2, 25, 2, 2}};
        for (int quire = 0; quire < due.length; quire++) {
            for (int what = 2; what <= 5; what++) {
                CHECK.due("quire(" + quire + ", " + what + ")", book.quire(quire, what), due[quire][what - 2]);
            }
        }
    }

    private static void promise15Letter() {
        CHECK.sentence("1 for its letter (the code of the capital letter; NONE for stars)");
        QuireSigns book = Check.bookOf("A1,Aa1,Z1,Zzz1,*1");
        int[] letters = {65, 65, 90, 90, QuireSigns.NONE};
        for (int quire = 0; quire < letters.length; quire++) {
            CHECK.due("the letter of " + quire, book.quire(quire, 1), letters[quire]);
        }
        book.leaveOut('Z', true);
        CHECK.due("Z that is out", book.quire(2, 1), 90);
    }

    private static void promise15Same() {
        CHECK.sentence("6 for how many quires ahead of it have the same sign");
        QuireSigns book = Check.bookOf("A1,Aa1,A2,*1,**1,*9,A1,Aaa1");
        int[] same = {0, 0, 1, 0, 0, 1, 2, 0};
        for (int quire = 0; quire < same.length; quire++) {
            CHECK.due("ahead of " + quire, book.quire(quire, 6), same[quire]);
        }
    }

    private static void leafTells(QuireSigns book, int leaf, int... due) {
        for (int what = 0; what < due.length; what++) {
            CHECK.due("leaf(" + leaf + ", " + what + ")", book.leaf(leaf, what), due[what]);
        }
    }

    private static void promise16Leaf() {
        CHECK.sentence("0 for its quire, 1 for its number in the quire, 2 for whether it is signed (1, otherwise 0)");
        QuireSigns full = fullOf(1, 24);
        leafTells(full, 0, 0, 1, 1, 23, 0, 0, QuireSigns.BAD_VALUE);
        leafTells(full, 12, 0, 13, 1, 11, 0, 12);
        leafTells(full, 13, 0, 14, 0, 10, 0, 13);
        leafTells(full, 23, 0, 24, 0, 0, 0, 23);
        leafTells(full, 24, 1, 1, 1, 47, 0, 24);
        leafTells(full, 959, 39, 24, 0, 936, 0, 959, QuireSigns.BAD_VALUE);
        CHECK.due("leaf(959, -1)", full.leaf(959, -1), QuireSigns.BAD_VALUE);
        leafTells(full, 960, QuireSigns.UNKNOWN);
        leafTells(full, -1, QuireSigns.UNKNOWN);
        leafTells(Check.bookOf("A1"), 0, 0, 1, 1, QuireSigns.NONE, 0, 0, QuireSigns.BAD_VALUE);
        leafTells(Check.bookOf("A1"), 1, QuireSigns.UNKNOWN);
        leafTells(Check.bookOf("A2"), 1, 0, 2, 1, 0, 0, 1);
    }

    private static void promise16HangingAndLost() {
        CHECK.sentence("3 for the leaf that hangs together with it (NONE without one),"
                + " 4 for whether it is lost (1, otherwise 0)");
        QuireSigns book = Check.bookOf("A1,B2,C3");
        int none = QuireSigns.NONE;
        int[] hanging = {none, 2, 1, 5, none, 3};
        for (int leaf = 0; leaf < hanging.length; leaf++) {
            CHECK.due("with " + leaf, book.leaf(leaf, 3), hanging[leaf]);
            CHECK.due(leaf + " is lost", book.leaf(leaf, 4), 0);
        }
        for (int leaf = 0; leaf < hanging.length; leaf++) {
            book.lose(leaf, true);
            CHECK.due("with the lost " + leaf, book.leaf(leaf, 3), hanging[leaf]);
            CHECK.due(leaf + " is lost", book.leaf(leaf, 4), 1);
            CHECK.due("the next one is lost", book.leaf((leaf + 1) % 6, 4), leaf == 5 ? 1 : 0);
        }
        CHECK.due("none behind the last one", book.leaf(6, 3), QuireSigns.UNKNOWN);
    }

    private static void promise16Ahead() {
        CHECK.sentence("5 for how many leaves ahead of it are there");
        QuireSigns book = Check.bookOf("A3,B2");
        int[] none = {0, 1, 2, 3, 4};
        int[] first = {0, 0, 1, 2, 3};
        int[] firstAndLast = {0, 0, 1, 2, 3};
        int[] threeOfA = {0, 0, 0, 0, 1};
        aheadOfEach(book, none);
        book.lose(0, true);
        aheadOfEach(book, first);
        book.lose(4, true);
        aheadOfEach(book, firstAndLast);
        book.lose(1, true);
        book.lose(2, true);
        aheadOfEach(book, threeOfA);
    }

    private static void aheadOfEach(QuireSigns book, int[] due) {
        for (int leaf = 0; leaf < due.length; leaf++) {
            CHECK.due("ahead of " + leaf, book.leaf(leaf, 5), due[leaf]);
        }
    }

    private static void promise17Find() {
        CHECK.sentence("Tells the first leaf that has the sign of the text, which is to be one sign of a pile.");
        QuireSigns book = Check.bookOf("*1,A2,A4,*3,A4");
        String[] signs = {"*1", "A1", "A2", "A3", "A4", "*2", "*3", "A5", "*4", "**1", "Aa1", "J1"};
        int none = QuireSigns.NONE;
        int[] leaves = {0, 1, 2, 5, 6, 8, 9, none, none, none, none, none};
        for (int i = 0; i < signs.length; i++) {
            CHECK.due(signs[i], Check.find(book, signs[i]), leaves[i]);
        }
        CHECK.due("the last leaf of a full book", Check.find(lastWithSign(), "Aaa24"), 959);
        CHECK.due("in an empty book", Check.find(new QuireSigns(), "A1"), QuireSigns.NONE);
        book.lose(1, true);
        CHECK.due("a lost leaf has its sign", Check.find(book, "A1"), 1);
    }

    private static QuireSigns lastWithSign() {
        QuireSigns book = new QuireSigns();
        for (int quire = 0; quire < 39; quire++) {
            book.insert(quire, 1, 24);
        }
        Check.readFormula(book, "Aaa24");
        return book;
    }

    private static void promise17SeveralSigns() {
        CHECK.sentence("-100 minus the fault of the text as a pile if it has one (which is an error);"
                + " BAD_VALUE if it has several signs; NONE if no leaf has it.");
        QuireSigns book = Check.bookOf("A4");
        CHECK.due("one", Check.find(book, "A1"), 0);
        CHECK.due("two", Check.find(book, "A1,A2"), QuireSigns.BAD_VALUE);
        CHECK.due("the same twice", Check.find(book, "A1,A1"), QuireSigns.BAD_VALUE);
        CHECK.due("twenty", Check.find(book, "A1,".repeat(19) + "A1"), QuireSigns.BAD_VALUE);
        CHECK.due("two that no leaf has", Check.find(book, "B1,B2"), QuireSigns.BAD_VALUE);
        CHECK.due("one that no leaf has", Check.find(book, "B1"), QuireSigns.NONE);
        CHECK.due("the empty text", Check.find(book, ""), -100);
        CHECK.due("two, and a fault", Check.find(book, "A1,A2,"), -106);
        CHECK.due("the fault at the last place", Check.find(book, "A1,".repeat(20)), -160);
        CHECK.due("a formula", Check.find(book, "A-B4"), -101);
    }

    private static void promise18Ranks() {
        CHECK.sentence("`rank`: a rank among them, in their order, from 0");
        QuireSigns book = Check.bookOf("B1,B1,*1,A1,D1");
        int[][] due = {{1, 0, 0}, {3, 1, 0}, {4, 2, 2}};
        for (int rank = 0; rank < due.length; rank++) {
            for (int what = 0; what <= 2; what++) {
                CHECK.due("lapse(" + rank + ", " + what + ")", book.lapse(rank, what), due[rank][what]);
            }
        }
    }

    private static void promise18Errors() {
        CHECK.sentence("Returns the number; BAD_VALUE (rank is negative, or what); NONE if there are not so many.");
        QuireSigns book = Check.bookOf("B1,B1,*1,A1,D1");
        int[] behind = {3, 4, Integer.MAX_VALUE};
        int[] ahead = {-1, -2, Integer.MIN_VALUE};
        for (int i = 0; i < 3; i++) {
            for (int what = 0; what <= 2; what++) {
                CHECK.due("lapse(" + behind[i] + ", " + what + ")", book.lapse(behind[i], what), QuireSigns.NONE);
                CHECK.due("lapse(" + ahead[i] + ", " + what + ")", book.lapse(ahead[i], what), QuireSigns.BAD_VALUE);
            }
            CHECK.due("lapse(" + i + ", 3)", book.lapse(i, 3), QuireSigns.BAD_VALUE);
            CHECK.due("lapse(" + i + ", -1)", book.lapse(i, -1), QuireSigns.BAD_VALUE);
            CHECK.due("lapse(" + behind[i] + ", 3)", book.lapse(behind[i], 3), QuireSigns.BAD_VALUE);
        }
        CHECK.due("lapse(0, 0) of an empty book", new QuireSigns().lapse(0, 0), QuireSigns.NONE);
        CHECK.due("lapse(0, 3) of an empty book", new QuireSigns().lapse(0, 3), QuireSigns.BAD_VALUE);
    }

    private static void promise18Widths() {
        CHECK.sentence("2 for how wide the gap is (0 of the others)");
        CHECK.due("a repetition", Check.bookOf("C1,C1").lapse(0, 2), 0);
        CHECK.due("a step back", Check.bookOf("Zzz1,A1").lapse(0, 2), 0);
        CHECK.due("a gap of one", Check.bookOf("A1,C1").lapse(0, 2), 1);
        CHECK.due("over J", Check.bookOf("H1,K1").lapse(0, 2), 1);
        CHECK.due("the widest", Check.bookOf("A1,Zzz1").lapse(0, 2), 67);
        CHECK.due("from Z to Bb", Check.bookOf("Z1,Bb1").lapse(0, 2), 1);
    }

    private static void promise19Ranks() {
        CHECK.sentence("Tells the leaves of the pile in the order of the book.");
        QuireSigns book = Check.bookOf("A12,B12");
        int[] leaves = {0, 1, 2, 3, 4, 5, 6, 7, 8, 12, 13, 14};
        CHECK.due("backwards", Check.readPile(book, "B3,B2,B1,A9,A8,A7,A6,A5,A4,A3,A2,A1"), 12);
        piledAre(book, leaves);
        CHECK.due("mixed", Check.readPile(book, "A5,B3,A4,A6,A1,B1,A9,A3,A7,B2,A8,A2"), 12);
        piledAre(book, leaves);
    }

    private static void promise19Errors() {
        CHECK.sentence("BAD_VALUE (rank is negative, or what); NONE if there are not so many.");
        QuireSigns book = Check.bookOf("A12,B12");
        Check.readPile(book, "A1,A2,A3,A4,A5,A6,A7,A8,A9,B1,B2,B3");
        int[] behind = {12, 13, Integer.MAX_VALUE};
        int[] ahead = {-1, -2, Integer.MIN_VALUE};
        for (int i = 0; i < 3; i++) {
            for (int what = 0; what <= 1; what++) {
                CHECK.due("piled(" + behind[i] + ", " + what + ")", book.piled(behind[i], what), QuireSigns.NONE);
                CHECK.due("piled(" + ahead[i] + ", " + what + ")", book.piled(ahead[i], what), QuireSigns.BAD_VALUE);
            }
            CHECK.due("piled(" + i + ", 2)", book.piled(i, 2), QuireSigns.BAD_VALUE);
            CHECK.due("piled(" + i + ", -1)", book.piled(i, -1), QuireSigns.BAD_VALUE);
            CHECK.due("piled(" + behind[i] + ", 2)", book.piled(behind[i], 2), QuireSigns.BAD_VALUE);
        }
        CHECK.due("the last one", book.piled(11, 1), QuireSigns.NONE);
        CHECK.due("the last but one", book.piled(10, 1), 0);
        CHECK.due("piled(0, 0) of no pile", new QuireSigns().piled(0, 0), QuireSigns.NONE);
        CHECK.due("piled(0, 2) of no pile", new QuireSigns().piled(0, 2), QuireSigns.BAD_VALUE);
    }

    private static void piledAre(QuireSigns book, int[] leaves) {
        for (int rank = 0; rank < leaves.length; rank++) {
            CHECK.due("rank " + rank, book.piled(rank, 0), leaves[rank]);
        }
    }

    private static void promise19Between() {
        CHECK.sentence("lie between it and the next one of the pile (NONE for the last one)");
        QuireSigns book = Check.bookOf("A4,B4");
        Check.readPile(book, "A1,A2,B4");
        CHECK.due("neighbours", book.piled(0, 1), 0);
        CHECK.due("over a quire's end", book.piled(1, 1), 5);
        CHECK.due("the last one", book.piled(2, 1), QuireSigns.NONE);
        CHECK.due("behind it", book.piled(3, 1), QuireSigns.NONE);
        book.lose(2, true);
        book.lose(6, true);
        Check.readPile(book, "A1,A2,B4");
        CHECK.due("two of them lost", book.piled(1, 1), 3);
        for (int leaf = 1; leaf < 7; leaf++) {
            book.lose(leaf, true);
        }
        Check.readPile(book, "B4,A1");
        CHECK.due("all of them lost", book.piled(0, 1), 0);
        Check.readPile(book, "B4");
        CHECK.due("a pile of one", book.piled(0, 1), QuireSigns.NONE);
        QuireSigns full = lastWithSign();
        Check.readPile(full, "Aaa24,*1");
        CHECK.due("both ends of a full book", full.piled(0, 1), 958);
        full.lose(1, true);
        full.lose(958, true);
        full.lose(0, false);
        Check.readPile(full, "Aaa24,*1");
        CHECK.due("the neighbours of both lost", full.piled(0, 1), 956);
    }

    private static void promise20Folds() {
        CHECK.sentence("`fold`: how many leaves a sheet makes: 2, 4, 8 or 12");
        QuireSigns book = Check.bookOf("A24");
        for (int fold = -30; fold <= 60; fold++) {
            boolean good = fold == 2 || fold == 4 || fold == 8 || fold == 12;
            CHECK.due("sheets(" + fold + ")", book.sheets(fold), good ? 24 / fold : QuireSigns.BAD_VALUE);
        }
        CHECK.due("the least", book.sheets(Integer.MIN_VALUE), QuireSigns.BAD_VALUE);
        CHECK.due("the greatest", book.sheets(Integer.MAX_VALUE), QuireSigns.BAD_VALUE);
        CHECK.due("an empty book", new QuireSigns().sheets(2), 0);
        CHECK.due("an empty book, a bad fold", new QuireSigns().sheets(0), QuireSigns.BAD_VALUE);
    }

    private static void promise20RoundedUp() {
        CHECK.sentence("for each quire its leaves by the fold, rounded up");
        int[][] rows = {{1, 1, 1, 1, 1}, {2, 1, 1, 1, 1}, {3, 2, 1, 1, 1}, {4, 2, 1, 1, 1}, {5, 3, 2, 1, 1},
            {8, 4, 2, 1, 1}, {9, 5, 3, 2, 1}, {12, 6, 3, 2, 1}, {13, 7, 4, 2, 2}, {16, 8, 4, 2, 2}, {17, 9, 5, 3, 2},
            {23, 12, 6, 3, 2}, {24, 12, 6, 3, 2}};
        int[] folds = {2, 4, 8, 12};
        for (int[] row : rows) {
            QuireSigns one = Check.bookOf("A" + row[0]);
            QuireSigns three = Check.bookOf("A" + row[0] + ",*" + row[0] + ",B" + row[0]);
            three.lose(0, true);
            for (int i = 0; i < folds.length; i++) {
                CHECK.due(row[0] + " by " + folds[i], one.sheets(folds[i]), row[1 + i]);
                CHECK.due("thrice " + row[0] + " by " + folds[i], three.sheets(folds[i]), 3 * row[1 + i]);
            }
        }
        CHECK.due("a full book by 2", fullOf(1, 24).sheets(2), 480);
        CHECK.due("forty single leaves by 12", fullOf(1, 1).sheets(12), 40);
    }

    private static void formulaIs(String read, String due, int entries) {
        QuireSigns book = Check.bookOf(read);
        CHECK.formula(book, due);
        CHECK.due("the length of " + due, book.count(7), due.length());
        CHECK.due("the entries of " + due, book.count(8), entries);
    }

    private static void promise21Entries() {
        CHECK.sentence("are one entry (with \"-\", if they are two or more); any other quire is an entry of its own.");
        CHECK.formula(new QuireSigns(), "");
        formulaIs("A1", "A1", 1);
        formulaIs("A-A1", "A1", 1);
        formulaIs("A1,B1", "A-B1", 1);
        formulaIs("A1,B1,C1", "A-C1", 1);
        formulaIs("A1,A1", "A1,A1", 2);
        formulaIs("B1,A1", "B1,A1", 2);
        formulaIs("A1,C1", "A1,C1", 2);
        formulaIs("A1,B2", "A1,B2", 2);
        formulaIs("A-B2,C-D3", "A-B2,C-D3", 2);
        formulaIs("*1,*1", "*1,*1", 2);
        formulaIs("*1,**1,***1", "*1,**1,***1", 3);
        formulaIs("A1,*1,B1", "A1,*1,B1", 3);
        formulaIs("Zzz1,*1,A1", "Zzz1,*1,A1", 3);
        formulaIs("A-B1,A-B1", "A-B1,A-B1", 2);
        formulaIs("A-B10,C1", "A-B10,C1", 2);
        formulaIs("A9,B10,C19,D20,E24", "A9,B10,C19,D20,E24", 5);
        formulaIs("A-Z24", "A-Z24", 1);
    }

    private static void promise21LettersAsOften() {
        CHECK.sentence("with letters as often and as many leaves");
        formulaIs("Z1,Aa1", "Z1,Aa1", 2);
        formulaIs("Y-Z1,Aa-Bb1", "Y-Z1,Aa-Bb1", 2);
        formulaIs("Zz1,Aaa1", "Zz1,Aaa1", 2);
        formulaIs("Aa1,Bb1", "Aa-Bb1", 1);
        formulaIs("Yyy1,Zzz1", "Yyy-Zzz1", 1);
        formulaIs("A1,B1,C2,D2,E1", "A-B1,C-D2,E1", 3);
        formulaIs("A1,Bb1", "A1,Bb1", 2);
    }

    private static void promise21AlphabetAsItIsNow() {
        CHECK.sentence("each with the next sign of the one ahead of it as the alphabet is now");
        QuireSigns book = Check.bookOf("I1,K1");
        CHECK.formula(book, "I-K1");
        book.leaveOut('J', false);
        CHECK.formula(book, "I1,K1");
        book.leaveOut('J', true);
        book.leaveOut('I', true);
        CHECK.formula(book, "I-K1");
        book.leaveOut('K', true);
        CHECK.formula(book, "I1,K1");
    }

    private static void promise21Index() {
        CHECK.sentence("Returns the code of the character there; BAD_VALUE if index is negative; NONE if it is not so long.");
        QuireSigns book = Check.bookOf("Aa-Bb12,*****3");
        String due = "Aa-Bb12,*****3";
        for (int index = 0; index < due.length(); index++) {
            CHECK.due("formula(" + index + ")", book.formula(index), due.charAt(index));
        }
        CHECK.due("behind the last one", book.formula(due.length()), QuireSigns.NONE);
        CHECK.due("-1", book.formula(-1), QuireSigns.BAD_VALUE);
        CHECK.due("the greatest", book.formula(Integer.MAX_VALUE), QuireSigns.NONE);
        CHECK.due("the least", book.formula(Integer.MIN_VALUE), QuireSigns.BAD_VALUE);
        CHECK.due("0 of an empty book", new QuireSigns().formula(0), QuireSigns.NONE);
        QuireSigns longest = fullOf(5, 24);
        CHECK.due("the last one of the longest", longest.formula(318), '4');
        CHECK.due("behind it", longest.formula(319), QuireSigns.NONE);
    }

    private static void promise22Errors() {
        CHECK.sentence("Returns the number; BAD_VALUE.");
        QuireSigns book = Check.bookOf("A4");
        int[] bad = {Integer.MIN_VALUE, -2, -1, 13, 14, Integer.MAX_VALUE};
        for (int what : bad) {
            CHECK.due("count(" + what + ")", book.count(what), QuireSigns.BAD_VALUE);
        }
        CHECK.due("count(0)", book.count(0), 1);
        CHECK.due("count(12)", book.count(12), 0);
    }

    private static void promise22Counts() {
        CHECK.sentence("11 for the states in the history, 12 for the length of the text");
        QuireSigns book = new QuireSigns();
        for (int i = 1; i <= 61; i++) {
            book.type('A');
            CHECK.due("the length", book.count(12), Math.min(i, 60));
        }
        for (int i = 1; i <= 6; i++) {
            book.setSigning((i + 1) % 3);
            CHECK.due("the states", book.count(11), Math.min(i, 4));
            CHECK.due("the signing", book.count(10), (i + 1) % 3);
        }
    }

    private static void promise22FullBook() {
        CHECK.sentence("0 for quires, 1 for leaves, 2 for those that are lost, 3 for those that are signed,"
                + " 4 for letters of the alphabet, 5 for starred quires, 6 for lapses, 7 for the length of the formula,"
                + " 8 for its entries, 9 for leaves of the pile");
        QuireSigns starred = fullOf(5, 24);
        starred.lose(959, true);
        counts(starred, 40, 960, 1, 520, 23, 40, 0, 319, 40, 0);
        QuireSigns letters = Check.bookOf("A-Z24,Aaa-Rrr24");
        Check.readPile(letters, "A1,A2,A3,A4,A5,A6,A7,A8,A9,A10,A11,A12");
        counts(letters, 40, 960, 0, 520, 23, 0, 1, 15, 2, 12);
        QuireSigns same = new QuireSigns();
        Check.readFormula(same, "A1,".repeat(19) + "A1");
        same.readFormula();
        counts(same, 40, 40, 0, 40, 23, 0, 39, 119, 40, 0);
        QuireSigns lost = Check.bookOf("A2,*1");
        for (int leaf = 0; leaf < 3; leaf++) {
            lost.lose(leaf, true);
        }
        counts(lost, 2, 3, 3, 3, 23, 1, 0, 5, 2, 0);
    }

    private static void promise22LengthOrEntriesAlone() {
        CHECK.sentence("7 for the length of the formula, 8 for its entries");
        QuireSigns book = new QuireSigns();
        book.signNext(1);
        CHECK.due("entries, the length not asked for", book.count(8), 1);
        book.signNext(24);
        CHECK.due("entries", book.count(8), 2);
        CHECK.due("length", book.count(7), 6);
        book.insert(0, 5, 1);
        CHECK.due("length, the entries not asked for", book.count(7), 13);
        CHECK.due("entries", book.count(8), 3);
        book.undo();
        CHECK.due("entries behind undo", book.count(8), 2);
        book.undo();
        CHECK.due("length behind undo", book.count(7), 2);
        CHECK.due("a character behind undo", book.formula(2), QuireSigns.NONE);
    }

    private static void counts(QuireSigns book, int... due) {
        for (int what = 0; what < due.length; what++) {
            CHECK.due("count(" + what + ")", book.count(what), due[what]);
        }
    }
}
