/** The terms of the document, sentence by sentence, at their bounds: signs, quires, leaves and lapses. */
final class TermsTest {
    private static final Check CHECK = new Check("TermsTest");

    public static void main(String[] args) {
        alphabetAtFirst();
        howOftenLettersAndStarsStand();
        orderOfSigns();
        nextSignBehindTheLastLetter();
        walkThroughAllSigns();
        noSignBehindTheLastOne();
        nextSignOfALetterThatIsOut();
        atMostFortyQuires();
        leavesOfAQuire();
        numbersOfLeaves();
        thereOrLost();
        evenLeavesHangTogether();
        middleLeafHangsWithNone();
        signedLeaves();
        sameSigns();
        pairsOfLapses();
        lapseOrNext();
        kindsOfLapses();
        widthsOfGaps();
        CHECK.end();
    }

    // ---- alphabet, signs

    private static void alphabetAtFirst() {
        CHECK.sentence("The alphabet has the letters A to Z but those that are left out (at first J, V and W).");
        CHECK.due("letters", new QuireSigns().count(4), 23);
        for (char letter = 'A'; letter <= 'Z'; letter++) {
            boolean out = letter == 'J' || letter == 'V' || letter == 'W';
            int leftOut = new QuireSigns().leaveOut(letter, true);
            CHECK.due(letter + " is left out", leftOut, out ? QuireSigns.NONE : 22);
            CHECK.due(letter + " is taken in", new QuireSigns().leaveOut(letter, false), out ? 24 : QuireSigns.NONE);
        }
        QuireSigns all = bookOfAllLetters();
        CHECK.due("all letters", all.count(4), 26);
        CHECK.due("all letters in a formula", Check.readFormula(all, "A-Z1"), 26);
    }

    private static void howOftenLettersAndStarsStand() {
        CHECK.sentence("A sign of letters is a letter and how often it stands, 1 to 3 (A, Aa, Aaa);"
                + " a sign of stars is 1 to 5 stars.");
        String[] letters = {"A1", "Aa1", "Aaa1"};
        for (int times = 1; times <= 3; times++) {
            CHECK.due(letters[times - 1], Check.bookOf(letters[times - 1]).quire(0, 0), times);
        }
        for (int stars = 1; stars <= 5; stars++) {
            QuireSigns book = new QuireSigns();
            book.insert(0, stars, 1);
            CHECK.due("inserted stars", book.quire(0, 0), stars);
            CHECK.due("stars of a text", Check.bookOf("*".repeat(stars) + "1").quire(0, 0), stars);
        }
        CHECK.due("four letters", Check.readFormula(new QuireSigns(), "Aaaa1"), -103);
        CHECK.due("six stars", Check.readFormula(new QuireSigns(), "******1"), -105);
        CHECK.due("six inserted stars", new QuireSigns().insert(0, 6, 1), QuireSigns.BAD_VALUE);
        CHECK.due("no inserted star", new QuireSigns().insert(0, 0, 1), QuireSigns.BAD_VALUE);
    }

    private static void orderOfSigns() {
        CHECK.sentence("The signs of letters have an order: by how often the letter stands, then by letters.");
        String[] signs = {"A", "B", "Z", "Aa", "Bb", "Zz", "Aaa", "Bbb", "Zzz"};
        for (int first = 0; first < signs.length; first++) {
            for (int second = 0; second < first; second++) {
                QuireSigns back = Check.bookOf(signs[first] + "1," + signs[second] + "1");
                CHECK.due(signs[second] + " behind " + signs[first], back.lapse(0, 1), 1);
                QuireSigns on = Check.bookOf(signs[second] + "1," + signs[first] + "1");
                boolean gap = on.count(6) == 0 || on.lapse(0, 1) == 2;
                CHECK.due(signs[first] + " behind " + signs[second] + " is later", gap ? 1 : 0, 1);
            }
        }
    }

    private static void nextSignBehindTheLastLetter() {
        CHECK.sentence("behind the last letter that stands once the first one that stands twice, and so on");
        nextIs(Check.bookOf("Y1"), 'Z', 1);
        nextIs(Check.bookOf("Z1"), 'A', 2);
        nextIs(Check.bookOf("Yy1"), 'Z', 2);
        nextIs(Check.bookOf("Zz1"), 'A', 3);
        nextIs(Check.bookOf("Yyy1"), 'Z', 3);
        QuireSigns lastOut = Check.bookOf("Y1");
        lastOut.leaveOut('Z', true);
        nextIs(lastOut, 'A', 2);
        QuireSigns firstOut = Check.bookOf("Zz1");
        firstOut.leaveOut('A', true);
        firstOut.leaveOut('B', true);
        nextIs(firstOut, 'C', 3);
        QuireSigns bothOut = Check.bookOf("Yy1");
        bothOut.leaveOut('Z', true);
        bothOut.leaveOut('A', true);
        nextIs(bothOut, 'B', 3);
    }

    private static void nextIs(QuireSigns book, char letter, int times) {
        int quire = book.signNext(1);
        CHECK.due("the next letter", book.quire(quire, 1), letter);
        CHECK.due("how often " + letter + " stands", book.quire(quire, 0), times);
    }

    private static void walkThroughAllSigns() {
        CHECK.sentence("The next one of a sign is the next one in this order whose letter is not left out");
        QuireSigns book = new QuireSigns();
        for (char letter = 'N'; letter <= 'Z'; letter++) {
            book.leaveOut(letter, true);
        }
        book.leaveOut('J', false);
        CHECK.due("A to M", book.count(4), 13);
        for (int quire = 0; quire < 39; quire++) {
            CHECK.due("signNext", book.signNext(1), quire);
            CHECK.due("the letter of " + quire, book.quire(quire, 1), 'A' + quire % 13);
            CHECK.due("how often it stands", book.quire(quire, 0), quire / 13 + 1);
        }
        CHECK.due("behind Mmm", book.signNext(1), QuireSigns.NOT_POSSIBLE);
    }

    private static void noSignBehindTheLastOne() {
        CHECK.sentence("none behind the last one that stands three times");
        CHECK.due("behind Zzz", Check.bookOf("Zzz1").signNext(1), QuireSigns.NOT_POSSIBLE);
        CHECK.due("behind Yyy", Check.bookOf("Yyy1").signNext(1), 1);
        QuireSigns book = Check.bookOf("Yyy1");
        book.leaveOut('Z', true);
        CHECK.due("behind Yyy without Z", book.signNext(1), QuireSigns.NOT_POSSIBLE);
        CHECK.due("stars are behind no letter", book.insert(1, 1, 1), 2);
        CHECK.due("behind Yyy and a star", book.signNext(1), QuireSigns.NOT_POSSIBLE);
    }

    private static void nextSignOfALetterThatIsOut() {
        CHECK.sentence("also of a sign whose own letter is left out by now");
        nextWithoutItself("C1", 'D', 1);
        nextWithoutItself("Z1", 'A', 2);
        nextWithoutItself("Zz1", 'A', 3);
        nextWithoutItself("Aaa1", 'B', 3);
        QuireSigns last = Check.bookOf("Zzz1");
        last.leaveOut('Z', true);
        CHECK.due("behind Zzz that is out", last.signNext(1), QuireSigns.NOT_POSSIBLE);
        QuireSigns lapses = Check.bookOf("C1,D1,Z1,Aa1");
        lapses.leaveOut('C', true);
        lapses.leaveOut('Z', true);
        CHECK.due("only D, Z is a lapse", lapses.count(6), 1);
        CHECK.formula(lapses, "C-D1,Z1,Aa1");
    }

    private static void nextWithoutItself(String formula, char letter, int times) {
        QuireSigns book = Check.bookOf(formula);
        book.leaveOut((char) book.quire(0, 1), true);
        book.signNext(1);
        CHECK.due("the letter behind " + formula, book.quire(1, 1), letter);
        CHECK.due("how often it stands", book.quire(1, 0), times);
    }

    private static QuireSigns bookOfAllLetters() {
        QuireSigns book = new QuireSigns();
        book.leaveOut('J', false);
        book.leaveOut('V', false);
        book.leaveOut('W', false);
        return book;
    }

    // ---- quires and leaves

    private static QuireSigns bookOfStars(int quires, int leaves) {
        QuireSigns book = new QuireSigns();
        for (int quire = 0; quire < quires; quire++) {
            book.insert(quire, 1, leaves);
        }
        return book;
    }

    private static void atMostFortyQuires() {
        CHECK.sentence("A book is a row of at most 40 quires, numbered from 0 in their order.");
        CHECK.due("insert the 40th", bookOfStars(39, 1).insert(39, 1, 1), 40);
        CHECK.due("insert the 41st", bookOfStars(40, 1).insert(40, 1, 1), QuireSigns.FULL);
        CHECK.due("sign the 40th", bookOfStars(39, 1).signNext(1), 39);
        CHECK.due("sign the 41st", bookOfStars(40, 1).signNext(1), QuireSigns.FULL);
        CHECK.due("read the 40th", Check.readFormula(bookOfStars(39, 1), "A1"), 40);
        CHECK.due("read the 41st", Check.readFormula(bookOfStars(40, 1), "A1"), QuireSigns.FULL);
        CHECK.due("read the 40th and the 41st", Check.readFormula(bookOfStars(39, 1), "A-B1"), QuireSigns.FULL);
        QuireSigns book = bookOfStars(20, 1);
        book.insert(0, 2, 1);
        book.signNext(1);
        CHECK.due("the first quire", book.quire(0, 0), 2);
        CHECK.due("the last quire", book.quire(21, 1), 'A');
        CHECK.due("none behind it", book.quire(22, 0), QuireSigns.UNKNOWN);
        CHECK.due("none ahead of the first", book.quire(-1, 0), QuireSigns.UNKNOWN);
    }

    private static void leavesOfAQuire() {
        CHECK.sentence("A quire has a sign and 1 to 24 leaves.");
        int[] bad = {Integer.MIN_VALUE, -1, 0, 25, Integer.MAX_VALUE};
        for (int leaves : bad) {
            CHECK.due("signNext of " + leaves, new QuireSigns().signNext(leaves), QuireSigns.BAD_VALUE);
            CHECK.due("insert of " + leaves, new QuireSigns().insert(0, 1, leaves), QuireSigns.BAD_VALUE);
        }
        for (int leaves = 1; leaves <= 24; leaves++) {
            QuireSigns signed = new QuireSigns();
            signed.signNext(leaves);
            CHECK.due("leaves of signNext", signed.quire(0, 2), leaves);
            CHECK.due("leaves of insert", new QuireSigns().insert(0, 1, leaves), leaves);
            CHECK.due("leaves of a text", Check.bookOf("A" + leaves).count(1), leaves);
        }
        CHECK.due("A0", Check.readFormula(new QuireSigns(), "A0"), -101);
        CHECK.due("A25", Check.readFormula(new QuireSigns(), "A25"), -102);
    }

    private static void numbersOfLeaves() {
        CHECK.sentence("Leaves are numbered from 0 through the whole book, and from 1 in their quire.");
        QuireSigns full = bookOfStars(40, 24);
        CHECK.due("leaves of a full book", full.count(1), 960);
        int[] leaves = {0, 23, 24, 47, 48, 935, 936, 959};
        int[] quires = {0, 0, 1, 1, 2, 38, 39, 39};
        int[] numbers = {1, 24, 1, 24, 1, 24, 1, 24};
        for (int i = 0; i < leaves.length; i++) {
            CHECK.due("the quire of " + leaves[i], full.leaf(leaves[i], 0), quires[i]);
            CHECK.due("the number of " + leaves[i], full.leaf(leaves[i], 1), numbers[i]);
        }
        CHECK.due("leaf 960", full.leaf(960, 0), QuireSigns.UNKNOWN);
        CHECK.due("leaf -1", full.leaf(-1, 0), QuireSigns.UNKNOWN);
        CHECK.due("the first leaf of the last quire", full.quire(39, 3), 936);
        CHECK.due("the first leaf of the first quire", full.quire(0, 3), 0);
        CHECK.due("no leaf in an empty book", new QuireSigns().leaf(0, 0), QuireSigns.UNKNOWN);
        QuireSigns single = Check.bookOf("A1,B1,C2");
        CHECK.due("quires of one leaf", single.leaf(1, 0), 1);
        CHECK.due("its number", single.leaf(1, 1), 1);
        CHECK.due("the second one of C", single.leaf(3, 1), 2);
    }

    private static void thereOrLost() {
        CHECK.sentence("A leaf is there, or lost.");
        QuireSigns book = bookOfStars(40, 24);
        CHECK.due("lose the first", book.lose(0, true), 959);
        CHECK.due("lose the last", book.lose(959, true), 958);
        CHECK.due("lose the last of the first quire", book.lose(23, true), 957);
        CHECK.due("lost", book.count(2), 3);
        CHECK.due("the first quire", book.quire(0, 5), 22);
        CHECK.due("the last quire", book.quire(39, 5), 23);
        CHECK.due("the last leaf", book.leaf(959, 4), 1);
        CHECK.due("the one ahead of it", book.leaf(958, 4), 0);
        CHECK.due("those ahead of the last", book.leaf(959, 5), 957);
        QuireSigns none = Check.bookOf("A1");
        CHECK.due("lose the only one", none.lose(0, true), 0);
        CHECK.due("none of its quire is there", none.quire(0, 5), 0);
        CHECK.due("the quire stays", none.count(1), 1);
        CHECK.due("find the only one", none.lose(0, false), 1);
    }

    private static void evenLeavesHangTogether() {
        CHECK.sentence("In a quire with an even number of leaves, the leaves k and (leaves + 1 - k) hang together");
        for (int leaves = 2; leaves <= 24; leaves += 2) {
            QuireSigns book = Check.bookOf("*3,A" + leaves + ",B5");
            for (int k = 1; k <= leaves; k++) {
                CHECK.due(k + " of " + leaves, book.leaf(2 + k, 3), 3 + leaves - k);
            }
        }
    }

    private static void middleLeafHangsWithNone() {
        CHECK.sentence("in one with an odd number, too, but the middle one hangs together with none.");
        for (int leaves = 1; leaves <= 23; leaves += 2) {
            QuireSigns book = Check.bookOf("*3,A" + leaves + ",B5");
            int middle = (leaves + 1) / 2;
            for (int k = 1; k <= leaves; k++) {
                CHECK.due(k + " of " + leaves, book.leaf(2 + k, 3), k == middle ? QuireSigns.NONE : 3 + leaves - k);
            }
        }
    }

    private static void signedLeaves() {
        CHECK.sentence("0 the first half of the leaves of a quire (rounded up), 1 (at first) one more (at most all), 2 all.");
        int[][] rows = {{1, 1, 1, 1}, {2, 1, 2, 2}, {3, 2, 3, 3}, {4, 2, 3, 4}, {5, 3, 4, 5}, {6, 3, 4, 6},
            {22, 11, 12, 22}, {23, 12, 13, 23}, {24, 12, 13, 24}};
        for (int[] row : rows) {
            QuireSigns book = Check.bookOf("*3,A" + row[0]);
            CHECK.due("at first, of " + row[0], book.quire(1, 4), row[2]);
            for (int signing = 0; signing <= 2; signing++) {
                book.setSigning(signing);
                int signed = row[1 + signing];
                CHECK.due("signing " + signing + " of " + row[0], book.quire(1, 4), signed);
                CHECK.due("the last signed one", book.leaf(2 + signed, 2), 1);
                if (signed < row[0]) {
                    CHECK.due("the first that is not signed", book.leaf(3 + signed, 2), 0);
                }
            }
        }
    }

    private static void sameSigns() {
        CHECK.sentence("Several quires can have the same sign.");
        QuireSigns book = Check.bookOf("A2,A2,*2,A3,*3,**2,Aa2");
        int[] same = {0, 1, 0, 2, 1, 0, 0};
        for (int quire = 0; quire < same.length; quire++) {
            CHECK.due("ahead of " + quire, book.quire(quire, 6), same[quire]);
        }
        CHECK.due("39 with the same ahead", bookOfStars(40, 1).quire(39, 6), 39);
    }

    // ---- lapses

    private static void lapsesAre(QuireSigns book, String what, int[]... due) {
        CHECK.due("lapses of " + what, book.count(6), due.length);
        for (int rank = 0; rank < due.length; rank++) {
            for (int i = 0; i < due[rank].length; i++) {
                CHECK.due("lapse(" + rank + ", " + i + ") of " + what, book.lapse(rank, i), due[rank][i]);
            }
        }
        for (int i = 0; i <= 2; i++) {
            CHECK.due("one behind the last of " + what, book.lapse(due.length, i), QuireSigns.NONE);
        }
    }

    private static void lapsesAre(String formula, int[]... due) {
        lapsesAre(Check.bookOf(formula), formula, due);
    }

    private static int[] lapse(int quire, int kind, int width) {
        return new int[] {quire, kind, width};
    }

    private static void pairsOfLapses() {
        CHECK.sentence("each pair of them, one behind the other (starred ones between are passed over), is a lapse if");
        lapsesAre(new QuireSigns(), "an empty book");
        lapsesAre("M1");
        lapsesAre("*1,*1,***1");
        lapsesAre("*1,M1,*1");
        lapsesAre("*1,A1,*1,**1,B1,*1");
        lapsesAre("*1,A1,*1,*1,A1,*1", lapse(4, 0, 0));
        lapsesAre("A1,C1,A1", lapse(1, 2, 1), lapse(2, 1, 0));
        QuireSigns most = new QuireSigns();
        Check.readFormula(most, "A1,A1,A1,A1,A1,A1,A1,A1,A1,A1,A1,A1,A1,A1,A1,A1,A1,A1,A1,A1");
        most.readFormula();
        CHECK.due("39 lapses of 40 quires", most.count(6), 39);
        CHECK.due("the last one", most.lapse(38, 0), 39);
        CHECK.due("none behind it", most.lapse(39, 0), QuireSigns.NONE);
    }

    private static void lapseOrNext() {
        CHECK.sentence("if the sign of the second one is not the next one of that of the first one");
        lapsesAre("A1,B1");
        lapsesAre("I1,K1");
        lapsesAre("U1,X1");
        lapsesAre("Z1,Aa1");
        lapsesAre("Zz1,Aaa1");
        lapsesAre("Z1,A1", lapse(1, 1, 0));
        lapsesAre("Zzz1,A1", lapse(1, 1, 0));
        lapsesAre("A1,Aa1", lapse(1, 2, 22));
        lapsesAre("Zzz1,Zzz1", lapse(1, 0, 0));
        QuireSigns taken = Check.bookOf("I1,K1");
        taken.leaveOut('J', false);
        lapsesAre(taken, "I1,K1 with J", lapse(1, 2, 1));
    }

    private static void kindsOfLapses() {
        CHECK.sentence("a repetition if both are the same, a step back if it is earlier in the order, a gap otherwise.");
        lapsesAre("B1,B24", lapse(1, 0, 0));
        lapsesAre("B1,A1", lapse(1, 1, 0));
        lapsesAre("B1,D1", lapse(1, 2, 1));
        lapsesAre("B1,Bb1", lapse(1, 2, 22));
        lapsesAre("Bb1,B1", lapse(1, 1, 0));
        QuireSigns out = Check.bookOf("B1,B1,C1,B1");
        out.leaveOut('B', true);
        lapsesAre(out, "B that is out", lapse(1, 0, 0), lapse(3, 1, 0));
    }

    private static void widthsOfGaps() {
        CHECK.sentence("How wide a gap is, is how many signs with letters that are not left out lie between both.");
        lapsesAre("A1,C1", lapse(1, 2, 1));
        lapsesAre("Y1,Aa1", lapse(1, 2, 1));
        lapsesAre("Z1,Bb1", lapse(1, 2, 1));
        lapsesAre("A1,Zzz1", lapse(1, 2, 67));
        QuireSigns widest = bookOfAllLetters();
        Check.readFormula(widest, "A1,Zzz1");
        lapsesAre(widest, "all letters", lapse(1, 2, 76));
        QuireSigns none = Check.bookOf("A1,B1");
        none.leaveOut('B', true);
        lapsesAre(none, "B that is out behind A", lapse(1, 2, 0));
        QuireSigns ends = Check.bookOf("A1,E1");
        ends.leaveOut('A', true);
        ends.leaveOut('E', true);
        lapsesAre(ends, "A and E that are out", lapse(1, 2, 3));
        QuireSigns last = Check.bookOf("Yyy1,Zzz1");
        last.leaveOut('Z', true);
        lapsesAre(last, "Zzz that is out behind Yyy", lapse(1, 2, 0));
    }
}
