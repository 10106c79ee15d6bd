import java.util.ArrayList;
import java.util.HashMap;
import java.util.HashSet;
import java.util.List;
import java.util.Map;
import java.util.Set;
import java.util.TreeMap;

/**
 * The document once more, written as slowly as it reads and in no way as the class is: nodes are objects,
 * answers are texts, and undo makes all changes but the latest one again from the start.
 */
final class Model {
    private static final String BOUNDS = "throws.IndexOutOfBoundsException";
    private static final String ARGUMENT = "throws.IllegalArgumentException";
    private static final String STATE = "throws.IllegalStateException";
    private static final String UNSUPPORTED = "throws.UnsupportedOperationException";

    private static final class Node {
        String sort;
        int[] fanins;
        int next;
        Integer standIn;

        Node(String sort) {
            this.sort = sort;
        }

        boolean is(String other) {
            return sort.equals(other);
        }
    }

    private final TreeMap<Integer, Node> nodes = new TreeMap<>();
    private final List<Integer> outputs = new ArrayList<>();
    private final Map<Integer, List<Integer>> boxes = new TreeMap<>();
    private final List<long[]> changes = new ArrayList<>();
    private int undoable;
    private Map<Integer, Long> rows;

    Model() {
        clear();
    }

    private void clear() {
        nodes.clear();
        outputs.clear();
        boxes.clear();
        changes.clear();
        nodes.put(0, new Node("false"));
    }

    /** A call by its number in the face (0 input .. 17 count), with its arguments. */
    String call(long... call) {
        int a = call.length > 1 ? (int) call[1] : 0;
        int b = call.length > 2 ? (int) call[2] : 0;
        switch ((int) call[0]) {
            case 0: return input(call);
            case 1: return and(call, a, b);
            case 2: return output(call, a);
            case 3: return outputAt(a);
            case 4: return latch(call, a);
            case 5: return next(call, a, b);
            case 6: return nextOf(a);
            case 7: return box(call, a, b);
            case 8: return replace(call, a, b);
            case 9: return sweep(call);
            case 10: return undo();
            case 11: return simulate(call[1]);
            case 12: return row(a);
            case 13: return level(a);
            case 14: return fan(a);
            case 15: return node(a, b);
            case 16: return "" + all("and").size();
            default: return count(a);
        }
    }

    private void changed(long[] call) {
        changes.add(call);
        undoable = Math.min(30, undoable + 1);
        rows = null;
    }

    private List<Integer> all(String sort) {
        List<Integer> found = new ArrayList<>();
        for (int n : nodes.keySet()) {
            if (nodes.get(n).is(sort)) {
                found.add(n);
            }
        }
        return found;
    }

    private boolean wasNever(int... literals) {
        for (int literal : literals) {
            if (!nodes.containsKey(Math.floorDiv(literal, 2))) {
                return true;
            }
        }
        return false;
    }

    private boolean isGone(int... literals) {
        for (int literal : literals) {
            if (nodes.get(literal / 2).is("gone")) {
                return true;
            }
        }
        return false;
    }

    private int add(Node node) {
        nodes.put(nodes.size(), node);
        return 2 * (nodes.size() - 1);
    }

    private String input(long[] call) {
        if (nodes.size() == 400) {
            return UNSUPPORTED;
        }
        changed(call);
        return "" + add(new Node("input"));
    }

    /** Null when it would be a new one. */
    private Integer make(int a, int b, int leftOut) {
        if (a == b) {
            return a;
        }
        if (a / 2 == b / 2) {
            return 0;
        }
        if (a == 0 || b == 0) {
            return 0;
        }
        if (a == 1 || b == 1) {
            return a == 1 ? b : a;
        }
        for (int n : all("and")) {
            int[] fanins = nodes.get(n).fanins;
            boolean same = fanins[0] == a && fanins[1] == b || fanins[0] == b && fanins[1] == a;
            if (same && n != leftOut) {
                return 2 * n;
            }
        }
        return null;
    }

    private String and(long[] call, int a, int b) {
        if (wasNever(a, b)) {
            return BOUNDS;
        }
        if (isGone(a, b)) {
            return ARGUMENT;
        }
        Integer known = make(a, b, -1);
        if (known != null) {
            return "" + known;
        }
        if (nodes.size() == 400) {
            return UNSUPPORTED;
        }
        changed(call);
        Node made = new Node("and");
        made.fanins = a < b ? new int[] {a, b} : new int[] {b, a};
        return "" + add(made);
    }

    private String output(long[] call, int literal) {
        if (wasNever(literal)) {
            return BOUNDS;
        }
        if (isGone(literal)) {
            return ARGUMENT;
        }
        if (outputs.size() == 40) {
            return UNSUPPORTED;
        }
        changed(call);
        outputs.add(literal);
        return "" + (outputs.size() - 1);
    }

    private String outputAt(int k) {
        if (k < 0 || k >= outputs.size()) {
            return BOUNDS;
        }
        return "" + (outputs.get(k) == null ? -1 : outputs.get(k));
    }

    private String latch(long[] call, int start) {
        if (start < 0 || start > 1) {
            return ARGUMENT;
        }
        if (nodes.size() == 400) {
            return UNSUPPORTED;
        }
        changed(call);
        return "" + add(new Node("latch"));
    }

    private String next(long[] call, int latch, int literal) {
        if (wasNever(latch, literal)) {
            return BOUNDS;
        }
        if (isGone(latch, literal) || !nodes.get(latch / 2).is("latch")) {
            return ARGUMENT;
        }
        if (nodes.get(latch / 2).next == literal) {
            return "0";
        }
        changed(call);
        nodes.get(latch / 2).next = literal;
        return "1";
    }

    private String nextOf(int latch) {
        if (wasNever(latch)) {
            return BOUNDS;
        }
        return nodes.get(latch / 2).is("latch") ? "" + nodes.get(latch / 2).next : ARGUMENT;
    }

    private String box(long[] call, int inputs, int outlets) {
        int behind = 0;
        while (behind < outputs.size() && outputs.get(outputs.size() - 1 - behind) != null) {
            behind++;
        }
        if (inputs < 0 || inputs > behind || outlets < 1 || outlets > 20) {
            return ARGUMENT;
        }
        if (nodes.size() + outlets > 400) {
            return UNSUPPORTED;
        }
        changed(call);
        List<Integer> into = new ArrayList<>();
        for (int k = outputs.size() - inputs; k < outputs.size(); k++) {
            into.add(outputs.set(k, null));
        }
        int first = nodes.size();
        boxes.put(first, into);
        for (int k = 0; k < outlets; k++) {
            add(new Node("outlet"));
        }
        return "" + 2 * first;
    }

    private void reach(int node, Set<Integer> reached) {
        if (reached.add(node) && nodes.get(node).is("and")) {
            reach(nodes.get(node).fanins[0] / 2, reached);
            reach(nodes.get(node).fanins[1] / 2, reached);
        }
    }

    private int finalOf(int literal) {
        Integer standIn = nodes.get(literal / 2).standIn;
        return standIn == null ? literal : finalOf(literal % 2 == 0 ? standIn : standIn ^ 1);
    }

    private void letStand(int node, int literal) {
        Node gone = new Node("gone");
        gone.standIn = literal;
        nodes.put(node, gone);
    }

    private int leastToRenew() {
        for (int n : all("and")) {
            for (int fanin : nodes.get(n).fanins) {
                if (nodes.get(fanin / 2).standIn != null) {
                    return n;
                }
            }
        }
        return -1;
    }

    private String replace(long[] call, int node, int literal) {
        if (!nodes.containsKey(node) || wasNever(literal)) {
            return BOUNDS;
        }
        if (!nodes.get(node).is("input") && !nodes.get(node).is("and") || isGone(literal)) {
            return ARGUMENT;
        }
        Set<Integer> under = new HashSet<>();
        reach(literal / 2, under);
        if (under.contains(node)) {
            return "1";
        }
        changed(call);
        letStand(node, literal);
        for (int n = leastToRenew(); n >= 0; n = leastToRenew()) {
            int a = finalOf(nodes.get(n).fanins[0]);
            int b = finalOf(nodes.get(n).fanins[1]);
            nodes.get(n).fanins = new int[] {Math.min(a, b), Math.max(a, b)};
            Integer known = make(a, b, n);
            if (known != null) {
                letStand(n, known);
            }
        }
        outputs.replaceAll(o -> o == null ? null : Integer.valueOf(finalOf(o)));
        for (List<Integer> into : boxes.values()) {
            into.replaceAll(this::finalOf);
        }
        for (int n : all("latch")) {
            nodes.get(n).next = finalOf(nodes.get(n).next);
        }
        return "0";
    }

    private List<Integer> usedLiterals() {
        List<Integer> used = new ArrayList<>();
        for (Integer o : outputs) {
            if (o != null) {
                used.add(o);
            }
        }
        for (List<Integer> into : boxes.values()) {
            used.addAll(into);
        }
        for (int n : all("latch")) {
            used.add(nodes.get(n).next);
        }
        return used;
    }

    private String sweep(long[] call) {
        Set<Integer> used = new HashSet<>();
        for (int literal : usedLiterals()) {
            reach(literal / 2, used);
        }
        List<Integer> unused = all("and");
        unused.removeAll(used);
        if (!unused.isEmpty()) {
            changed(call);
        }
        for (int n : unused) {
            nodes.put(n, new Node("gone"));
        }
        return "" + unused.size();
    }

    private String undo() {
        if (undoable == 0) {
            return "0";
        }
        List<long[]> before = new ArrayList<>(changes.subList(0, changes.size() - 1));
        int left = undoable - 1;
        clear();
        for (long[] call : before) {
            call(call);
        }
        undoable = left;
        rows = null;
        return "1";
    }

    private String simulate(long seed) {
        rows = new HashMap<>();
        int k = 0;
        for (int n : nodes.keySet()) {
            if (nodes.get(n).is("input") || nodes.get(n).is("latch") || nodes.get(n).is("outlet")) {
                k++;
                long z = seed + k * 0x9E3779B97F4A7C15L;
                z = (z ^ z >>> 30) * 0xBF58476D1CE4E5B9L;
                z = (z ^ z >>> 27) * 0x94D049BB133111EBL;
                rows.put(n, z ^ z >>> 31);
            }
        }
        rows.put(0, 0L);
        for (int n : all("and")) {
            rowOf(2 * n);
        }
        return "" + (nodes.size() - all("gone").size());
    }

    private long rowOf(int literal) {
        int n = literal / 2;
        if (!rows.containsKey(n)) {
            rows.put(n, rowOf(nodes.get(n).fanins[0]) & rowOf(nodes.get(n).fanins[1]));
        }
        return literal % 2 == 0 ? rows.get(n) : ~rows.get(n);
    }

    private String row(int node) {
        if (!nodes.containsKey(node)) {
            return BOUNDS;
        }
        if (rows == null) {
            return STATE;
        }
        return nodes.get(node).is("gone") ? ARGUMENT : "" + rows.get(node);
    }

    private int levelOf(int node, Map<Integer, Integer> known) {
        if (!nodes.get(node).is("and")) {
            return 0;
        }
        if (!known.containsKey(node)) {
            int[] fanins = nodes.get(node).fanins;
            known.put(node, 1 + Math.max(levelOf(fanins[0] / 2, known), levelOf(fanins[1] / 2, known)));
        }
        return known.get(node);
    }

    private String level(int node) {
        if (!nodes.containsKey(node)) {
            return BOUNDS;
        }
        return nodes.get(node).is("gone") ? ARGUMENT : "" + levelOf(node, new HashMap<>());
    }

    private String fan(int node) {
        if (!nodes.containsKey(node)) {
            return BOUNDS;
        }
        if (nodes.get(node).is("gone")) {
            return ARGUMENT;
        }
        List<Integer> used = usedLiterals();
        for (int n : all("and")) {
            used.add(nodes.get(n).fanins[0]);
            used.add(nodes.get(n).fanins[1]);
        }
        return "" + used.stream().filter(literal -> literal / 2 == node).count();
    }

    private String node(int node, int what) {
        if (!nodes.containsKey(node)) {
            return BOUNDS;
        }
        Node it = nodes.get(node);
        switch (what) {
            case 0: return "" + List.of("false", "input", "and", "latch", "outlet", "gone").indexOf(it.sort);
            case 1: return "" + (it.is("and") ? it.fanins[0] : -1);
            case 2: return "" + (it.is("and") ? it.fanins[1] : -1);
            case 3: return "" + (it.standIn == null ? -1 : it.standIn);
            default: return ARGUMENT;
        }
    }

    private String count(int what) {
        Map<Integer, Integer> known = new HashMap<>();
        switch (what) {
            case 0: return "" + nodes.size();
            case 1: return "" + all("input").size();
            case 2: return "" + outputs.size();
            case 3: return "" + all("latch").size();
            case 4: return "" + undoable;
            case 5: return "" + all("and").stream().mapToInt(n -> levelOf(n, known)).max().orElse(0);
            default: return ARGUMENT;
        }
    }

    int nodesGiven() {
        return nodes.size();
    }

    int outputsGiven() {
        return outputs.size();
    }

    /** For choosing arguments: some literal whose node is of a sort, or any at all. */
    int someOf(String sort, int pick) {
        List<Integer> those = all(sort);
        return those.isEmpty() ? pick % (2 * nodes.size()) : 2 * those.get(pick / 2 % those.size()) + pick % 2;
    }
}
