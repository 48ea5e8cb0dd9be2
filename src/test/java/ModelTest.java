import java.util.List;
import java.util.Random;

/**
 * Long runs of calls, the same in every test run, on a QuireSigns and on a PlainBook: every answer
 * of the one is to be that of the other, and no call may throw.
 */
final class ModelTest {
    private static final Check CHECK = new Check("ModelTest");
    private static final int RUNS = 4000;
    private static final int CALLS = 512;
    private static final int[] FAR = {Integer.MIN_VALUE, -100, -2, -1, 0, 1, 2, 25, 41, 961, 100000, Integer.MAX_VALUE};
    private static final String CHARACTERS = "ABCJYZabcjyz**--,,0123456789 ?";

    private final Random random;
    private final QuireSigns book = new QuireSigns();
    private final PlainBook plain = new PlainBook();
    private final int run;
    private int calls;

    private ModelTest(int run) {
        this.run = run;
        this.random = new Random(run);
    }

    public static void main(String[] args) {
        for (int run = 0; run < RUNS; run++) {
            new ModelTest(run).calls();
        }
        CHECK.end();
    }

    private void calls() {
        // A text and what is told at the end stay within the calls that an object is made for.
        while (calls < CALLS - 200) {
            change();
            ask();
            ask();
            if (random.nextInt(40) == 0) {
                wholeFormula();
            }
        }
        for (int what = 0; what <= 12; what++) {
            same("count", book.count(what), plain.count(what), what, 0);
        }
        for (int quire = 0; quire < 7; quire++) {
            for (int what = 0; what <= 6; what++) {
                same("quire", book.quire(quire, what), plain.quire(quire, what), quire, what);
            }
        }
    }

    private void same(String call, int got, int want, int first, int second) {
        calls++;
        if (calls > CALLS) {
            throw new IllegalStateException("run " + run + " is too long");
        }
        CHECK.due("run " + run + ", call " + calls + ", " + call + "(" + first + ", " + second + ")", got, want);
    }

    private int upTo(int most) {
        return random.nextInt(most + 1);
    }

    /** Mostly a number from -1 to one more than the most, now and then one that is far off. */
    private int near(int most) {
        return random.nextInt(25) == 0 ? FAR[random.nextInt(FAR.length)] : random.nextInt(most + 3) - 1;
    }

    private void change() {
        switch (random.nextInt(20)) {
            case 0, 1 -> changeAlphabet();
            case 2 -> changeSigning();
            case 3, 4, 5 -> {
                put(formula());
                same("readFormula", book.readFormula(), plain.readFormula(), 0, 0);
            }
            case 6, 7 -> {
                int leaves = random.nextInt(10) == 0 ? near(24) : 1 + upTo(3);
                same("signNext", book.signNext(leaves), plain.signNext(leaves), leaves, 0);
            }
            case 8 -> {
                int quire = near(plain.count(0));
                int stars = 1 + upTo(random.nextInt(8) == 0 ? 5 : 2);
                int leaves = near(24);
                same("insert", book.insert(quire, stars, leaves), plain.insert(quire, stars, leaves), quire, stars);
            }
            case 9, 10 -> {
                int quire = near(plain.count(0) - 1);
                same("remove", book.remove(quire), plain.remove(quire), quire, 0);
            }
            case 11, 12 -> {
                int leaf = near(plain.count(1));
                boolean lost = random.nextInt(3) > 0;
                same("lose", book.lose(leaf, lost), plain.lose(leaf, lost), leaf, lost ? 1 : 0);
            }
            case 13, 14, 15 -> {
                put(pile());
                same("readPile", book.readPile(), plain.readPile(), 0, 0);
            }
            case 16 -> same("undo", book.undo(), plain.undo(), 0, 0);
            case 17 -> same("keep", book.keep(), plain.keep(), 0, 0);
            case 18 -> same("restore", book.restore(), plain.restore(), 0, 0);
            default -> {
                put(mixed());
                same("readFormula", book.readFormula(), plain.readFormula(), 0, 0);
                same("readPile", book.readPile(), plain.readPile(), 0, 0);
            }
        }
    }

    private void changeAlphabet() {
        char letter = random.nextInt(12) == 0 ? (char) random.nextInt(65536) : letter();
        boolean out = random.nextInt(run % 5 == 0 ? 12 : 3) > 0;
        same("leaveOut", book.leaveOut(letter, out), plain.leaveOut(letter, out), letter, out ? 1 : 0);
    }

    private void changeSigning() {
        int signing = near(2);
        same("setSigning", book.setSigning(signing), plain.setSigning(signing), signing, 0);
    }

    private void ask() {
        int first;
        int second;
        switch (random.nextInt(9)) {
            case 0 -> {
                first = near(plain.count(0));
                second = near(6);
                same("quire", book.quire(first, second), plain.quire(first, second), first, second);
            }
            case 1 -> {
                first = near(plain.count(1));
                second = near(5);
                same("leaf", book.leaf(first, second), plain.leaf(first, second), first, second);
            }
            case 2 -> {
                put(sign() + (1 + upTo(3)) + (random.nextInt(6) == 0 ? "," + pile() : ""));
                same("find", book.find(), plain.find(), 0, 0);
            }
            case 3, 4 -> {
                first = near(plain.count(6));
                second = near(2);
                same("lapse", book.lapse(first, second), plain.lapse(first, second), first, second);
            }
            case 5 -> {
                first = near(plain.count(9));
                second = near(1);
                same("piled", book.piled(first, second), plain.piled(first, second), first, second);
            }
            case 6 -> {
                first = random.nextInt(3) == 0 ? near(12) : List.of(2, 4, 8, 12).get(random.nextInt(4));
                same("sheets", book.sheets(first), plain.sheets(first), first, 0);
            }
            case 7 -> {
                first = near(plain.count(7));
                same("formula", book.formula(first), plain.formula(first), first, 0);
            }
            default -> {
                first = near(12);
                same("count", book.count(first), plain.count(first), first, 0);
            }
        }
    }

    private void wholeFormula() {
        for (int i = 0; i <= Math.min(plain.count(7), 40); i++) {
            same("formula", book.formula(i), plain.formula(i), i, 0);
        }
    }

    private void put(String text) {
        if (random.nextInt(15) > 0) {
            same("clearText", book.clearText(), plain.clearText(), 0, 0);
        }
        for (char character : text.toCharArray()) {
            same("type", book.type(character), plain.type(character), character, 0);
        }
    }

    private char letter() {
        return (char) ('A' + random.nextInt(run % 3 == 0 ? 4 : 26));
    }

    private String lettersSign(int times) {
        char letter = letter();
        return letter + ("" + (char) (letter + 32)).repeat(times - 1);
    }

    private String sign() {
        return random.nextInt(4) == 0 ? "*".repeat(1 + upTo(2)) : lettersSign(1 + upTo(2));
    }

    private String formula() {
        StringBuilder text = new StringBuilder();
        for (int entry = upTo(3); entry >= 0; entry--) {
            if (random.nextInt(3) == 0) {
                int times = 1 + upTo(2);
                char letter = letter();
                char last = (char) Math.min('Z', letter + upTo(4));
                text.append(letter).append(("" + (char) (letter + 32)).repeat(times - 1)).append('-');
                text.append(last).append(("" + (char) (last + 32)).repeat(times - 1));
            } else {
                text.append(sign());
            }
            text.append(1 + upTo(random.nextInt(4) == 0 ? 23 : 5)).append(entry > 0 ? "," : "");
        }
        return spoiled(text);
    }

    private String pile() {
        StringBuilder text = new StringBuilder();
        List<String> signs = plain.leafSigns();
        int most = random.nextInt(8) == 0 ? 19 : 4;
        for (int entry = upTo(most); entry >= 0; entry--) {
            boolean any = signs.isEmpty() || random.nextInt(20) == 0;
            text.append(any ? sign() + (1 + upTo(5)) : signs.get(random.nextInt(signs.size())));
            text.append(entry > 0 ? "," : "");
        }
        return spoiled(text);
    }

    private String spoiled(StringBuilder text) {
        if (random.nextInt(5) == 0) {
            int at = random.nextInt(text.length());
            switch (random.nextInt(3)) {
                case 0 -> text.deleteCharAt(at);
                case 1 -> text.insert(at, CHARACTERS.charAt(random.nextInt(CHARACTERS.length())));
                default -> text.setLength(at);
            }
        }
        return text.toString();
    }

    private String mixed() {
        StringBuilder text = new StringBuilder();
        for (int i = upTo(12); i > 0; i--) {
            boolean any = random.nextInt(30) == 0;
            text.append(any ? (char) random.nextInt(65536) : CHARACTERS.charAt(random.nextInt(CHARACTERS.length())));
        }
        return text.toString();
    }
}
