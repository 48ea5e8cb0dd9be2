/** The words of promises 1 to 8, one after the other, at the bounds that they name. */
final class QuireEdgesTest {
    private static final Check CHECK = new Check("QuireEdgesTest");

    public static void main(String[] args) {
        promise1EmptyBook();
        promise2QuiresStay();
        promise2Letters();
        promise2HowManyLetters();
        promise2NoLetterLeft();
        promise3Values();
        promise3Signing();
        promise4BehindTheOthers();
        promise4Faults();
        promise4MoreThan40();
        promise5NextSign();
        promise5WithoutOne();
        promise5Errors();
        promise6Places();
        promise6Quires();
        promise6StarsAndLeaves();
        promise6Errors();
        promise7Remove();
        promise8Lose();
        CHECK.end();
    }

    private static QuireSigns stars(int quires, int leaves) {
        QuireSigns book = new QuireSigns();
        for (int quire = 0; quire < quires; quire++) {
            book.insert(quire, 1, leaves);
        }
        return book;
    }

    private static void promise1EmptyBook() {
        CHECK.sentence("Creates an empty book.");
        QuireSigns book = new QuireSigns();
        int[] counts = {0, 0, 0, 0, 23, 0, 0, 0, 0, 0, 1, 0, 0};
        for (int what = 0; what < counts.length; what++) {
            CHECK.due("count(" + what + ")", book.count(what), counts[what]);
        }
        CHECK.due("quire(0, 0)", book.quire(0, 0), QuireSigns.UNKNOWN);
        CHECK.due("leaf(0, 0)", book.leaf(0, 0), QuireSigns.UNKNOWN);
        CHECK.due("lapse(0, 0)", book.lapse(0, 0), QuireSigns.NONE);
        CHECK.due("piled(0, 0)", book.piled(0, 0), QuireSigns.NONE);
        CHECK.due("piled(0, 1)", book.piled(0, 1), QuireSigns.NONE);
        CHECK.due("formula(0)", book.formula(0), QuireSigns.NONE);
        CHECK.due("sheets(12)", book.sheets(12), 0);
        CHECK.due("find()", Check.find(book, "A1"), QuireSigns.NONE);
        CHECK.due("readPile()", book.readPile(), QuireSigns.UNKNOWN);
        CHECK.due("insert behind the last one, which is none", book.insert(1, 1, 1), QuireSigns.UNKNOWN);
        CHECK.due("insert", book.insert(0, 1, 1), 1);
        CHECK.due("a second object is empty", new QuireSigns().count(0), 0);
    }

    private static void promise2QuiresStay() {
        CHECK.sentence("Leaves a letter out of the alphabet, or takes it in; quires stay as they are.");
        QuireSigns book = Check.bookOf("A-C4");
        book.lose(5, true);
        for (char letter = 'A'; letter <= 'C'; letter++) {
            book.leaveOut(letter, true);
        }
        CHECK.due("quires", book.count(0), 3);
        for (int quire = 0; quire < 3; quire++) {
            CHECK.due("the letter of " + quire, book.quire(quire, 1), 'A' + quire);
            CHECK.due("the leaves of " + quire, book.quire(quire, 2), 4);
        }
        CHECK.due("B2 is lost still", book.leaf(5, 4), 1);
        CHECK.due("D is behind C", book.signNext(1), 3);
        CHECK.due("D", book.quire(3, 1), 'D');
    }

    private static void promise2Letters() {
        CHECK.sentence("`letter`: A to Z");
        CHECK.due("A", new QuireSigns().leaveOut('A', true), 22);
        CHECK.due("Z", new QuireSigns().leaveOut('Z', true), 22);
        CHECK.due("ahead of A", new QuireSigns().leaveOut('@', true), QuireSigns.UNKNOWN);
        CHECK.due("behind Z", new QuireSigns().leaveOut('[', true), QuireSigns.UNKNOWN);
        CHECK.due("a", new QuireSigns().leaveOut('a', true), QuireSigns.UNKNOWN);
        CHECK.due("no sign at all", new QuireSigns().leaveOut((char) 0, false), QuireSigns.UNKNOWN);
        CHECK.due("the last character", new QuireSigns().leaveOut((char) 65535, false), QuireSigns.UNKNOWN);
    }

    private static void promise2HowManyLetters() {
        CHECK.sentence("Returns how many letters the alphabet has then; UNKNOWN; NOT_POSSIBLE if no letter would be left;"
                + " NONE if it is so already.");
        QuireSigns book = new QuireSigns();
        CHECK.due("J", book.leaveOut('J', false), 24);
        CHECK.due("V", book.leaveOut('V', false), 25);
        CHECK.due("W", book.leaveOut('W', false), 26);
        CHECK.due("W again", book.leaveOut('W', false), QuireSigns.NONE);
        for (char letter = 'A'; letter < 'Z'; letter++) {
            CHECK.due(letter + " out", book.leaveOut(letter, true), 'Z' - letter);
            CHECK.due(letter + " out again", book.leaveOut(letter, true), QuireSigns.NONE);
        }
        CHECK.due("Z, the only one", book.leaveOut('Z', true), QuireSigns.NOT_POSSIBLE);
        CHECK.due("letters", book.count(4), 1);
    }

    private static void promise2NoLetterLeft() {
        CHECK.sentence("NOT_POSSIBLE if no letter would be left");
        for (char only = 'A'; only <= 'Z'; only++) {
            QuireSigns book = new QuireSigns();
            book.leaveOut(only, false);
            for (char letter = 'A'; letter <= 'Z'; letter++) {
                if (letter != only) {
                    book.leaveOut(letter, true);
                }
            }
            CHECK.due("the only letter " + only, book.leaveOut(only, true), QuireSigns.NOT_POSSIBLE);
            CHECK.due("it stays", book.leaveOut(only, false), QuireSigns.NONE);
            char other = only == 'A' ? 'B' : 'A';
            CHECK.due("another one that is out", book.leaveOut(other, true), QuireSigns.NONE);
            CHECK.due("a second letter", book.leaveOut(other, false), 2);
            CHECK.due("the first one can go then", book.leaveOut(only, true), 1);
        }
    }

    private static void promise3Values() {
        CHECK.sentence("`signing`: 0 to 2");
        int[] bad = {Integer.MIN_VALUE, -2, -1, 3, 4, Integer.MAX_VALUE};
        for (int signing : bad) {
            CHECK.due("setSigning(" + signing + ")", Check.bookOf("A24").setSigning(signing), QuireSigns.BAD_VALUE);
        }
        CHECK.due("setSigning(0)", Check.bookOf("A24").setSigning(0), 12);
        CHECK.due("setSigning(2)", Check.bookOf("A24").setSigning(2), 24);
        QuireSigns book = Check.bookOf("A24");
        book.setSigning(0);
        CHECK.due("setSigning(1)", book.setSigning(1), 13);
    }

    private static void promise3Signing() {
        CHECK.sentence("Returns how many leaves of the book are signed then; BAD_VALUE; NONE if it is so already.");
        CHECK.due("1 at first", new QuireSigns().setSigning(1), QuireSigns.NONE);
        CHECK.due("0 of an empty book", new QuireSigns().setSigning(0), 0);
        CHECK.due("2 of an empty book", new QuireSigns().setSigning(2), 0);
        QuireSigns full = stars(40, 24);
        CHECK.due("2 of a full book", full.setSigning(2), 960);
        CHECK.due("2 again", full.setSigning(2), QuireSigns.NONE);
        CHECK.due("1 of it", full.setSigning(1), 520);
        CHECK.due("0 of it", full.setSigning(0), 480);
        QuireSigns single = stars(40, 1);
        CHECK.due("0 of single leaves", single.setSigning(0), 40);
        CHECK.due("1 of single leaves", single.setSigning(1), 40);
        single.lose(39, true);
        CHECK.due("2 of single leaves, one lost", single.setSigning(2), 40);
    }

    private static void promise4BehindTheOthers() {
        CHECK.sentence("Puts the quires of the text, a formula, which stays, behind the others.");
        QuireSigns book = new QuireSigns();
        CHECK.due("in an empty book", Check.readFormula(book, "B2"), 1);
        CHECK.due("the text stays", book.count(12), 2);
        CHECK.due("behind B", Check.readFormula(book, "A3,*4"), 3);
        CHECK.due("the text stays", book.count(12), 5);
        CHECK.due("again", book.readFormula(), 5);
        CHECK.formula(book, "B2,A3,*4,A3,*4");
    }

    private static void promise4Faults() {
        CHECK.sentence("-100 minus the fault of the text as a formula if it has one (which is an error)");
        QuireSigns book = Check.bookOf("A4");
        CHECK.due("the first fault that can be", Check.readFormula(book, ""), -100);
        CHECK.due("the second", Check.readFormula(book, "B"), -101);
        CHECK.due("the last", Check.readFormula(book, "A1,".repeat(20)), -160);
        CHECK.due("the last but one", Check.readFormula(book, "A1,".repeat(19) + "A1?"), -159);
        CHECK.due("no quire comes of it", book.count(0), 1);
        CHECK.due("no state is recorded", book.count(11), 1);
        CHECK.due("the text stays", book.count(12), 60);
    }

    private static void promise4MoreThan40() {
        CHECK.sentence("FULL if there would be more than 40.");
        CHECK.due("40 at once", Check.readFormula(new QuireSigns(), "A-Z8,Aa-Rr24"), 40);
        CHECK.due("41 at once", Check.readFormula(new QuireSigns(), "A-Z8,Aa-Ss24"), QuireSigns.FULL);
        CHECK.due("276 at once", Check.readFormula(new QuireSigns(), "A-Z1,".repeat(11) + "A-Z1"), QuireSigns.FULL);
        QuireSigns book = Check.bookOf("*1");
        CHECK.due("39 behind one", Check.readFormula(book, "A-Z8,Aa-Qq24"), 40);
        CHECK.due("one behind 40", Check.readFormula(book, "A1"), QuireSigns.FULL);
        book.remove(39);
        CHECK.due("two behind 39", Check.readFormula(book, "A-B1"), QuireSigns.FULL);
        CHECK.due("two entries behind 39", Check.readFormula(book, "*1,*1"), QuireSigns.FULL);
        CHECK.due("one from itself to itself behind 39", Check.readFormula(book, "A-A1"), 40);
    }

    private static void promise5NextSign() {
        CHECK.sentence("Puts a quire behind the others, with the next sign of the last one that has a sign of letters");
        QuireSigns book = Check.bookOf("C2,A2,*2,**2");
        CHECK.due("behind stars", book.signNext(24), 4);
        CHECK.due("the next of A, which is the last one", book.quire(4, 1), 'B');
        CHECK.due("its leaves", book.quire(4, 2), 24);
        CHECK.due("behind B", book.signNext(1), 5);
        CHECK.due("C", book.quire(5, 1), 'C');
        book.insert(0, 1, 1);
        book.signNext(1);
        CHECK.due("a star ahead changes nothing", book.quire(7, 1), 'D');
        CHECK.due("no next sign", Check.bookOf("Zzz1,*1").signNext(1), QuireSigns.NOT_POSSIBLE);
        CHECK.due("Zzz isn't the last one", Check.bookOf("Zzz1,A1").signNext(1), 2);
    }

    private static void promise5WithoutOne() {
        CHECK.sentence("(without one, the first sign)");
        QuireSigns empty = new QuireSigns();
        CHECK.due("in an empty book", empty.signNext(1), 0);
        CHECK.due("A", empty.quire(0, 1), 'A');
        CHECK.due("once", empty.quire(0, 0), 1);
        QuireSigns starred = stars(39, 1);
        starred.leaveOut('A', true);
        starred.leaveOut('B', true);
        CHECK.due("behind stars alone", starred.signNext(1), 39);
        CHECK.due("C", starred.quire(39, 1), 'C');
        CHECK.due("behind 40", starred.signNext(1), QuireSigns.FULL);
        QuireSigns last = new QuireSigns();
        for (char letter = 'A'; letter < 'Z'; letter++) {
            last.leaveOut(letter, true);
        }
        last.signNext(1);
        CHECK.due("Z, the only letter", last.quire(0, 1), 'Z');
        last.remove(0);
        last.signNext(1);
        CHECK.due("Z once more, as none is left", last.quire(0, 0), 1);
    }

    private static void promise5Errors() {
        CHECK.sentence("Returns its number; BAD_VALUE; FULL if there are 40; NOT_POSSIBLE if there is no next sign.");
        QuireSigns book = new QuireSigns();
        for (int quire = 0; quire < 40; quire++) {
            CHECK.due("0 leaves", book.signNext(0), QuireSigns.BAD_VALUE);
            CHECK.due("25 leaves", book.signNext(25), QuireSigns.BAD_VALUE);
            CHECK.due("its number", book.signNext(quire % 24 + 1), quire);
        }
        CHECK.due("the 41st", book.signNext(1), QuireSigns.FULL);
        CHECK.due("the 41st of 25 leaves", book.signNext(25), QuireSigns.BAD_VALUE);
        book.remove(0);
        CHECK.due("the 40th again", book.signNext(1), 39);
        QuireSigns last = Check.bookOf("Yyy1");
        CHECK.due("Zzz", last.signNext(1), 1);
        CHECK.due("behind Zzz", last.signNext(1), QuireSigns.NOT_POSSIBLE);
        CHECK.due("behind Zzz, of 0 leaves", last.signNext(0), QuireSigns.BAD_VALUE);
        CHECK.due("nothing is put", last.count(0), 2);
    }

    private static void promise6Places() {
        CHECK.sentence("Inserts a starred quire ahead of another one, or behind the last one.");
        CHECK.due("0 of an empty book", new QuireSigns().insert(0, 1, 24), 24);
        CHECK.due("1 of an empty book", new QuireSigns().insert(1, 1, 24), QuireSigns.UNKNOWN);
        String[] due = {"*1,A2,B3", "A2,*1,B3", "A2,B3,*1"};
        for (int quire = 0; quire <= 2; quire++) {
            QuireSigns book = Check.bookOf("A2,B3");
            CHECK.due("leaves", book.insert(quire, 1, 1), 6);
            CHECK.formula(book, due[quire]);
        }
        QuireSigns lost = Check.bookOf("A2,B3");
        lost.lose(1, true);
        lost.lose(4, true);
        lost.insert(1, 1, 2);
        int[] isLost = {0, 1, 0, 0, 0, 0, 1};
        for (int leaf = 0; leaf < isLost.length; leaf++) {
            CHECK.due("whether " + leaf + " is lost", lost.leaf(leaf, 4), isLost[leaf]);
        }
    }

    private static void promise6Quires() {
        CHECK.sentence("`quire`: 0 up to the number of quires");
        for (int quires = 0; quires < 40; quires += 13) {
            CHECK.due("-1", stars(quires, 1).insert(-1, 1, 1), QuireSigns.UNKNOWN);
            CHECK.due("0 of " + quires, stars(quires, 1).insert(0, 1, 1), quires + 1);
            CHECK.due("the number of quires", stars(quires, 1).insert(quires, 1, 1), quires + 1);
            CHECK.due("one more", stars(quires, 1).insert(quires + 1, 1, 1), QuireSigns.UNKNOWN);
        }
        CHECK.due("the least", stars(1, 1).insert(Integer.MIN_VALUE, 1, 1), QuireSigns.UNKNOWN);
        CHECK.due("the greatest", stars(1, 1).insert(Integer.MAX_VALUE, 1, 1), QuireSigns.UNKNOWN);
    }

    private static void promise6StarsAndLeaves() {
        CHECK.sentence("`stars`: 1 to 5");
        int[] stars = {Integer.MIN_VALUE, -1, 0, 6, 7, Integer.MAX_VALUE};
        for (int bad : stars) {
            CHECK.due(bad + " stars", new QuireSigns().insert(0, bad, 1), QuireSigns.BAD_VALUE);
        }
        QuireSigns book = new QuireSigns();
        for (int good = 1; good <= 5; good++) {
            CHECK.due(good + " stars", book.insert(0, good, good == 5 ? 24 : 1), good == 5 ? 28 : good);
            CHECK.due("they are told", book.quire(0, 0), good);
            CHECK.due("no letter", book.quire(0, 1), QuireSigns.NONE);
        }
        CHECK.due("no leaf", new QuireSigns().insert(0, 5, 0), QuireSigns.BAD_VALUE);
        CHECK.due("25 leaves", new QuireSigns().insert(0, 5, 25), QuireSigns.BAD_VALUE);
    }

    private static void promise6Errors() {
        CHECK.sentence("Returns how many leaves the book has then; UNKNOWN (quire); BAD_VALUE; FULL if there are 40.");
        CHECK.due("-1 of two", Check.bookOf("A2,B3").insert(-1, 1, 1), QuireSigns.UNKNOWN);
        CHECK.due("3 of two", Check.bookOf("A2,B3").insert(3, 1, 1), QuireSigns.UNKNOWN);
        CHECK.due("behind 39", stars(39, 24).insert(39, 1, 24), 960);
        CHECK.due("ahead of 39", stars(39, 24).insert(0, 1, 1), 937);
        CHECK.due("behind 40", stars(40, 24).insert(40, 1, 24), QuireSigns.FULL);
        CHECK.due("ahead of 40", stars(40, 24).insert(0, 1, 24), QuireSigns.FULL);
        CHECK.due("behind 40, six stars", stars(40, 24).insert(40, 6, 24), QuireSigns.BAD_VALUE);
        CHECK.due("behind 40, 25 leaves", stars(40, 24).insert(40, 1, 25), QuireSigns.BAD_VALUE);
        CHECK.due("41 of 40", stars(40, 24).insert(41, 1, 24), QuireSigns.UNKNOWN);
    }

    private static void promise7Remove() {
        CHECK.sentence("Returns how many leaves the book has then; UNKNOWN.");
        String[] due = {"B3,*4", "A2,*4", "A2,B3"};
        int[] leaves = {7, 6, 5};
        for (int quire = 0; quire <= 2; quire++) {
            QuireSigns book = Check.bookOf("A2,B3,*4");
            CHECK.due("remove(" + quire + ")", book.remove(quire), leaves[quire]);
            CHECK.formula(book, due[quire]);
        }
        QuireSigns one = Check.bookOf("A2");
        CHECK.due("-1", one.remove(-1), QuireSigns.UNKNOWN);
        CHECK.due("1 of one", one.remove(1), QuireSigns.UNKNOWN);
        CHECK.due("the only one", one.remove(0), 0);
        CHECK.due("0 of none", one.remove(0), QuireSigns.UNKNOWN);
        QuireSigns full = stars(40, 24);
        CHECK.due("40 of 40", full.remove(40), QuireSigns.UNKNOWN);
        CHECK.due("39 of 40", full.remove(39), 936);
        CHECK.due("39 of 39", full.remove(39), QuireSigns.UNKNOWN);
        CHECK.due("there is room again", full.insert(39, 1, 1), 937);
        QuireSigns lost = Check.bookOf("A2,B3,*4");
        lost.lose(4, true);
        lost.lose(8, true);
        lost.remove(0);
        CHECK.due("the lost one of B", lost.leaf(2, 4), 1);
        CHECK.due("the lost one of *", lost.leaf(6, 4), 1);
        CHECK.due("two are lost", lost.count(2), 2);
    }

    private static void promise8Lose() {
        CHECK.sentence("Returns how many leaves of the book are there then; UNKNOWN; NONE if it is so already.");
        QuireSigns full = stars(40, 24);
        int[] leaves = {0, 23, 24, 47, 936, 959};
        for (int i = 0; i < leaves.length; i++) {
            CHECK.due("lose " + leaves[i], full.lose(leaves[i], true), 959 - i);
            CHECK.due("again", full.lose(leaves[i], true), QuireSigns.NONE);
            CHECK.due("it is lost", full.leaf(leaves[i], 4), 1);
        }
        CHECK.due("those of the first quire", full.quire(0, 5), 22);
        CHECK.due("960", full.lose(960, true), QuireSigns.UNKNOWN);
        CHECK.due("-1", full.lose(-1, true), QuireSigns.UNKNOWN);
        for (int i = 0; i < leaves.length; i++) {
            CHECK.due("find " + leaves[i], full.lose(leaves[i], false), 955 + i);
            CHECK.due("again", full.lose(leaves[i], false), QuireSigns.NONE);
        }
        QuireSigns all = Check.bookOf("A24");
        for (int leaf = 0; leaf < 24; leaf++) {
            CHECK.due("lose all", all.lose(leaf, true), 23 - leaf);
        }
        CHECK.due("none is there", all.quire(0, 5), 0);
    }
}
