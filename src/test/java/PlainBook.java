import java.util.ArrayDeque;
import java.util.ArrayList;
import java.util.Deque;
import java.util.List;
import java.util.TreeSet;
import java.util.regex.Matcher;
import java.util.regex.Pattern;

/**
 * The document once more, written another way: signs are texts, leaves are objects, states are
 * copies. Only for comparing answers, so it takes what time and room it likes.
 */
final class PlainBook {
    private static final int UNKNOWN = -1;
    private static final int BAD_VALUE = -2;
    private static final int FULL = -3;
    private static final int NOT_POSSIBLE = -4;
    private static final int NONE = -5;

    private static final List<String> ORDER = new ArrayList<>();
    private static final Pattern SIGN;
    private static final Pattern NUMBER = Pattern.compile("1[0-9]|2[0-4]|[1-9]");

    static {
        StringBuilder pattern = new StringBuilder("\\*{1,5}");
        for (int times = 1; times <= 3; times++) {
            for (char letter = 'A'; letter <= 'Z'; letter++) {
                ORDER.add(letter + ("" + letter).toLowerCase().repeat(times - 1));
            }
        }
        for (char letter = 'A'; letter <= 'Z'; letter++) {
            pattern.append('|').append(letter).append(("" + letter).toLowerCase()).append("{0,2}");
        }
        SIGN = Pattern.compile(pattern.toString());
    }

    private record Leaf(int quire, String sign, int number, int of, boolean lost) {
    }

    private record Quire(String sign, List<Boolean> lost) {
        boolean starred() {
            return sign.startsWith("*");
        }

        int size() {
            return lost.size();
        }
    }

    private record Entry(String first, String last, int number) {
    }

    private record Read(List<Entry> entries, int fault) {
    }

    private record Lapse(int quire, int kind, int width) {
    }

    private record State(TreeSet<Character> out, int signing, List<Quire> quires, List<Integer> pile) {
        State copy() {
            List<Quire> copies = new ArrayList<>();
            for (Quire quire : quires) {
                copies.add(new Quire(quire.sign, new ArrayList<>(quire.lost)));
            }
            return new State(new TreeSet<>(out), signing, copies, new ArrayList<>(pile));
        }
    }

    private State state = new State(new TreeSet<>(List.of('J', 'V', 'W')), 1, new ArrayList<>(), new ArrayList<>());
    private State snapshot;
    private final Deque<State> history = new ArrayDeque<>();
    private String text = "";

    private void record() {
        history.addLast(state.copy());
        if (history.size() > 4) {
            history.removeFirst();
        }
    }

    private boolean in(String sign) {
        return !state.out.contains(sign.charAt(0));
    }

    private String next(String sign) {
        List<String> behind = ORDER.subList(ORDER.indexOf(sign) + 1, ORDER.size());
        return behind.stream().filter(this::in).findFirst().orElse(null);
    }

    private int signedOf(int size) {
        int half = size - size / 2;
        return state.signing == 2 ? size : Math.min(size, half + state.signing);
    }

    private List<Leaf> leaves() {
        List<Leaf> leaves = new ArrayList<>();
        for (int q = 0; q < state.quires.size(); q++) {
            Quire quire = state.quires.get(q);
            for (int k = 1; k <= quire.size(); k++) {
                leaves.add(new Leaf(q, quire.sign, k, quire.size(), quire.lost.get(k - 1)));
            }
        }
        return leaves;
    }

    private int there() {
        return (int) leaves().stream().filter(leaf -> !leaf.lost).count();
    }

    private int signed() {
        return (int) leaves().stream().filter(leaf -> leaf.number <= signedOf(leaf.of)).count();
    }

    private int firstWith(Entry entry) {
        List<Leaf> leaves = leaves();
        for (int i = 0; i < leaves.size(); i++) {
            if (leaves.get(i).sign.equals(entry.first) && leaves.get(i).number == entry.number) {
                return i;
            }
        }
        return NONE;
    }

    private Read read(boolean formula) {
        List<Entry> entries = new ArrayList<>();
        int at = 0;
        while (true) {
            Matcher sign = SIGN.matcher(text).region(at, text.length());
            if (!sign.lookingAt() || formula && !in(sign.group())) {
                return new Read(entries, at);
            }
            at = sign.end();
            String first = sign.group();
            String last = first;
            if (formula && !first.startsWith("*") && text.startsWith("-", at)) {
                at++;
                sign.region(at, text.length());
                if (text.startsWith("*", at) || !sign.lookingAt() || !in(sign.group())) {
                    return new Read(entries, at);
                }
                last = sign.group();
                at = sign.end();
                if (last.length() != first.length() || last.charAt(0) < first.charAt(0)) {
                    return new Read(entries, at - 1);
                }
            }
            Matcher number = NUMBER.matcher(text).region(at, text.length());
            if (!number.lookingAt()) {
                return new Read(entries, at);
            }
            at = number.end();
            entries.add(new Entry(first, last, Integer.parseInt(number.group())));
            if (at == text.length()) {
                return new Read(entries, -1);
            }
            if (text.charAt(at) != ',') {
                return new Read(entries, at);
            }
            at++;
        }
    }

    int leaveOut(char letter, boolean out) {
        if (ORDER.indexOf("" + letter) < 0) {
            return UNKNOWN;
        }
        if (out && state.out.size() == 25 && !state.out.contains(letter)) {
            return NOT_POSSIBLE;
        }
        if (state.out.contains(letter) == out) {
            return NONE;
        }
        record();
        if (out) {
            state.out.add(letter);
        } else {
            state.out.remove(letter);
        }
        return 26 - state.out.size();
    }

    int setSigning(int signing) {
        if (!List.of(0, 1, 2).contains(signing)) {
            return BAD_VALUE;
        }
        if (signing == state.signing) {
            return NONE;
        }
        record();
        state = new State(state.out, signing, state.quires, state.pile);
        return signed();
    }

    private void addQuire(int at, String sign, int leaves) {
        List<Boolean> lost = new ArrayList<>();
        for (int i = 0; i < leaves; i++) {
            lost.add(false);
        }
        state.quires.add(at, new Quire(sign, lost));
        state.pile.clear();
    }

    int readFormula() {
        Read read = read(true);
        if (read.fault >= 0) {
            return -100 - read.fault;
        }
        List<Entry> all = new ArrayList<>();
        for (Entry entry : read.entries) {
            if (entry.first.startsWith("*")) {
                all.add(entry);
            } else {
                List<String> meant = ORDER.subList(ORDER.indexOf(entry.first), ORDER.indexOf(entry.last) + 1);
                meant.stream().filter(this::in).forEach(sign -> all.add(new Entry(sign, sign, entry.number)));
            }
        }
        if (state.quires.size() + all.size() > 40) {
            return FULL;
        }
        record();
        all.forEach(entry -> addQuire(state.quires.size(), entry.first, entry.number));
        return state.quires.size();
    }

    int signNext(int leaves) {
        if (leaves < 1 || leaves > 24) {
            return BAD_VALUE;
        }
        if (state.quires.size() == 40) {
            return FULL;
        }
        String sign = ORDER.stream().filter(this::in).findFirst().orElseThrow();
        for (Quire quire : state.quires) {
            if (!quire.starred()) {
                sign = next(quire.sign);
            }
        }
        if (sign == null) {
            return NOT_POSSIBLE;
        }
        record();
        addQuire(state.quires.size(), sign, leaves);
        return state.quires.size() - 1;
    }

    int insert(int quire, int stars, int leaves) {
        if (quire < 0 || quire > state.quires.size()) {
            return UNKNOWN;
        }
        if (stars < 1 || stars > 5 || leaves < 1 || leaves > 24) {
            return BAD_VALUE;
        }
        if (state.quires.size() == 40) {
            return FULL;
        }
        record();
        addQuire(quire, "*".repeat(stars), leaves);
        return leaves().size();
    }

    int remove(int quire) {
        if (quire < 0 || quire >= state.quires.size()) {
            return UNKNOWN;
        }
        record();
        state.quires.remove(quire);
        state.pile.clear();
        return leaves().size();
    }

    int lose(int leaf, boolean lost) {
        List<Leaf> leaves = leaves();
        if (leaf < 0 || leaf >= leaves.size()) {
            return UNKNOWN;
        }
        Leaf one = leaves.get(leaf);
        if (one.lost == lost) {
            return NONE;
        }
        record();
        state.quires.get(one.quire).lost.set(one.number - 1, lost);
        state.pile.clear();
        return there();
    }

    int readPile() {
        Read read = read(false);
        if (read.fault >= 0) {
            return -100 - read.fault;
        }
        List<Integer> found = read.entries.stream().map(this::firstWith).toList();
        if (found.contains(NONE)) {
            return UNKNOWN;
        }
        List<Leaf> leaves = leaves();
        TreeSet<Integer> sorted = new TreeSet<>(found);
        if (sorted.size() < found.size() || found.stream().anyMatch(leaf -> leaves.get(leaf).lost)) {
            return NOT_POSSIBLE;
        }
        if (sorted.size() > 12) {
            return FULL;
        }
        record();
        state.pile.clear();
        state.pile.addAll(sorted);
        return sorted.size();
    }

    int type(char character) {
        if (text.length() == 60) {
            return FULL;
        }
        text += character;
        return text.length();
    }

    int clearText() {
        int length = text.length();
        text = "";
        return length;
    }

    int undo() {
        if (history.isEmpty()) {
            return NONE;
        }
        state = history.removeLast();
        return history.size();
    }

    int keep() {
        snapshot = state.copy();
        return state.quires.size();
    }

    int restore() {
        if (snapshot == null) {
            return NONE;
        }
        record();
        state = snapshot.copy();
        return state.quires.size();
    }

    int quire(int quire, int what) {
        if (quire < 0 || quire >= state.quires.size()) {
            return UNKNOWN;
        }
        Quire one = state.quires.get(quire);
        List<Quire> ahead = state.quires.subList(0, quire);
        return switch (what) {
            case 0 -> one.sign.length();
            case 1 -> one.starred() ? NONE : one.sign.charAt(0);
            case 2 -> one.size();
            case 3 -> ahead.stream().mapToInt(Quire::size).sum();
            case 4 -> signedOf(one.size());
            case 5 -> (int) one.lost.stream().filter(lost -> !lost).count();
            case 6 -> (int) ahead.stream().filter(other -> other.sign.equals(one.sign)).count();
            default -> BAD_VALUE;
        };
    }

    int leaf(int leaf, int what) {
        List<Leaf> leaves = leaves();
        if (leaf < 0 || leaf >= leaves.size()) {
            return UNKNOWN;
        }
        Leaf one = leaves.get(leaf);
        int other = leaf + one.of + 1 - 2 * one.number;
        return switch (what) {
            case 0 -> one.quire;
            case 1 -> one.number;
            case 2 -> one.number <= signedOf(one.of) ? 1 : 0;
            case 3 -> other == leaf ? NONE : other;
            case 4 -> one.lost ? 1 : 0;
            case 5 -> (int) leaves.subList(0, leaf).stream().filter(ahead -> !ahead.lost).count();
            default -> BAD_VALUE;
        };
    }

    int find() {
        Read read = read(false);
        if (read.fault >= 0) {
            return -100 - read.fault;
        }
        return read.entries.size() > 1 ? BAD_VALUE : firstWith(read.entries.get(0));
    }

    private List<Lapse> lapses() {
        List<Lapse> lapses = new ArrayList<>();
        String ahead = null;
        for (int q = 0; q < state.quires.size(); q++) {
            Quire quire = state.quires.get(q);
            if (quire.starred()) {
                continue;
            }
            if (ahead != null && !quire.sign.equals(next(ahead))) {
                int from = ORDER.indexOf(ahead);
                int to = ORDER.indexOf(quire.sign);
                int width = from >= to ? 0 : (int) ORDER.subList(from + 1, to).stream().filter(this::in).count();
                lapses.add(new Lapse(q, from == to ? 0 : to < from ? 1 : 2, width));
            }
            ahead = quire.sign;
        }
        return lapses;
    }

    int lapse(int rank, int what) {
        if (rank < 0 || what < 0 || what > 2) {
            return BAD_VALUE;
        }
        List<Lapse> lapses = lapses();
        if (rank >= lapses.size()) {
            return NONE;
        }
        Lapse one = lapses.get(rank);
        return what == 0 ? one.quire : what == 1 ? one.kind : one.width;
    }

    int piled(int rank, int what) {
        if (rank < 0 || what < 0 || what > 1) {
            return BAD_VALUE;
        }
        if (rank >= state.pile.size()) {
            return NONE;
        }
        int leaf = state.pile.get(rank);
        if (what == 0) {
            return leaf;
        }
        if (rank == state.pile.size() - 1) {
            return NONE;
        }
        List<Leaf> between = leaves().subList(leaf + 1, state.pile.get(rank + 1));
        return (int) between.stream().filter(one -> !one.lost).count();
    }

    int sheets(int fold) {
        if (!List.of(2, 4, 8, 12).contains(fold)) {
            return BAD_VALUE;
        }
        return state.quires.stream().mapToInt(quire -> (int) Math.ceil(quire.size() / (double) fold)).sum();
    }

    private List<String> entries() {
        List<String> entries = new ArrayList<>();
        List<Quire> open = new ArrayList<>();
        for (Quire quire : state.quires) {
            if (!open.isEmpty() && !joins(open.get(open.size() - 1), quire)) {
                entries.add(entryOf(open));
                open.clear();
            }
            open.add(quire);
        }
        if (!open.isEmpty()) {
            entries.add(entryOf(open));
        }
        return entries;
    }

    private boolean joins(Quire ahead, Quire quire) {
        return !ahead.starred() && quire.sign.equals(next(ahead.sign))
                && quire.sign.length() == ahead.sign.length() && quire.size() == ahead.size();
    }

    private static String entryOf(List<Quire> quires) {
        Quire last = quires.get(quires.size() - 1);
        return quires.get(0).sign + (quires.size() > 1 ? "-" + last.sign : "") + last.size();
    }

    int formula(int index) {
        String formula = String.join(",", entries());
        return index < 0 ? BAD_VALUE : index < formula.length() ? formula.charAt(index) : NONE;
    }

    int count(int what) {
        return switch (what) {
            case 0 -> state.quires.size();
            case 1 -> leaves().size();
            case 2 -> leaves().size() - there();
            case 3 -> signed();
            case 4 -> 26 - state.out.size();
            case 5 -> (int) state.quires.stream().filter(Quire::starred).count();
            case 6 -> lapses().size();
            case 7 -> String.join(",", entries()).length();
            case 8 -> entries().size();
            case 9 -> state.pile.size();
            case 10 -> state.signing;
            case 11 -> history.size();
            case 12 -> text.length();
            default -> BAD_VALUE;
        };
    }

    /** Signs of leaves that the book has now, for texts that tell a pile. */
    List<String> leafSigns() {
        return leaves().stream().map(leaf -> leaf.sign + leaf.number).toList();
    }
}
