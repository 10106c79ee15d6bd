/** All that an object answers to calls that change nothing, as one text. */
final class Seen {
    private Seen() {
    }

    static String of(InverterGraphs x) {
        StringBuilder seen = new StringBuilder("ands " + x.size());
        for (int what = 0; what <= 5; what++) {
            seen.append(", count ").append(what).append(' ').append(x.count(what));
        }
        for (int output = 0; output < x.count(2); output++) {
            seen.append(", output ").append(output).append(' ').append(x.outputAt(output));
        }
        int nodes = x.count(0);
        for (int node = 0; node < nodes; node++) {
            seen.append(", node ").append(node).append(ofNode(x, node));
        }
        return seen.toString();
    }

    private static String ofNode(InverterGraphs x, int node) {
        StringBuilder seen = new StringBuilder();
        for (int what = 0; what <= 3; what++) {
            seen.append(' ').append(x.node(node, what));
        }
        seen.append(" level ").append(Check.outcome(() -> x.level(node)));
        seen.append(" fan ").append(Check.outcome(() -> x.fan(node)));
        seen.append(" next ").append(Check.outcome(() -> x.nextOf(2 * node)));
        seen.append(" row ").append(Check.outcome(() -> x.row(node)));
        return seen.toString();
    }
}
