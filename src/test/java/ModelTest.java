/** Long runs of calls, chosen by a fixed row of numbers: each answer must be the one of the Model. */
public final class ModelTest {
    private static final String[] NAMES = {
        "input", "and", "output", "outputAt", "latch", "next", "nextOf", "box", "replace", "sweep", "undo",
        "simulate", "row", "level", "fan", "node", "size", "count",
    };
    private static final int[] ARGUMENTS = {0, 2, 1, 1, 1, 2, 1, 2, 2, 0, 0, 1, 1, 1, 1, 2, 0, 1};
    /** How often each call of the face comes in a kind of run. */
    private static final int[][] KINDS = {
        {4, 14, 4, 2, 2, 3, 2, 2, 8, 1, 4, 2, 4, 3, 3, 4, 1, 3}, // of all a little
        {2, 60, 3, 1, 1, 2, 1, 1, 10, 0, 1, 1, 2, 2, 1, 4, 1, 2}, // many ands, replaced again and again
        {1, 40, 3, 1, 2, 4, 1, 1, 3, 2, 2, 1, 2, 2, 2, 2, 1, 2}, // ands high above few inputs
        {3, 20, 9, 2, 2, 4, 1, 30, 5, 2, 2, 1, 2, 1, 1, 1, 1, 1}, // boxes until there is no room
        {9, 12, 6, 1, 4, 4, 1, 4, 5, 3, 40, 1, 2, 1, 1, 1, 1, 6}, // more taken back than the thirty
        {30, 50, 2, 0, 3, 2, 0, 0, 1, 0, 0, 0, 0, 0, 0, 0, 0, 1}, // full of inputs and ands
    };
    private static final int RUNS = 900;
    private static final int CALLS = 512;

    private static final Check check = new Check();
    private static final int[] answered = new int[NAMES.length];
    private static final int[] threw = new int[NAMES.length];
    private static long state = 20261118;

    public static void main(String[] args) {
        for (int run = 0; run < RUNS && check.wrong() == 0; run++) {
            run(run);
        }
        for (int call = 0; call < NAMES.length; call++) {
            System.out.println(NAMES[call] + ": " + answered[call] + " answered, " + threw[call] + " threw");
        }
        check.end();
    }

    private static int pick(int below) {
        state = state * 6364136223846793005L + 1442695040888963407L;
        return (int) ((state >>> 33) % below);
    }

    private static void run(int run) {
        InverterGraphs x = new InverterGraphs();
        Model model = new Model();
        int[] kind = KINDS[run % KINDS.length];
        StringBuilder told = new StringBuilder();
        for (int k = 0; k < CALLS && check.wrong() == 0; k++) {
            ask(run, told, x, model, chosen(model, kind));
            if (k % 128 == 127) {
                askAll(run, told, x, model);
            }
        }
    }

    private static long[] chosen(Model model, int[] kind) {
        int all = 0;
        for (int often : kind) {
            all += often;
        }
        int place = pick(all);
        int call = 0;
        while (place >= kind[call]) {
            place -= kind[call];
            call++;
        }
        long[] made = new long[1 + ARGUMENTS[call]];
        made[0] = call;
        for (int k = 1; k < made.length; k++) {
            made[k] = pick(30) == 0 ? oddArgument(model) : argument(model, call, k);
        }
        return made;
    }

    private static long oddArgument(Model model) {
        int[] odd = {
            -1, -2, -3, Integer.MIN_VALUE, Integer.MAX_VALUE, model.nodesGiven(), 2 * model.nodesGiven(),
            2 * model.nodesGiven() - 1, 2 * model.nodesGiven() + 1, 400, 799, 800, 801, 5, 6, 20, 21, 40,
        };
        return odd[pick(odd.length)];
    }

    private static long argument(Model model, int call, int k) {
        switch (call) {
            case 3:
                return pick(model.outputsGiven() + 1);
            case 4:
                return pick(2);
            case 5:
            case 6:
                return k == 1 ? model.someOf("latch", pick(1000)) : literal(model);
            case 7:
                return k == 1 ? pick(3) : 1 + pick(pick(3) == 0 ? 20 : 3);
            case 8:
                return k == 1 ? literal(model) / 2 : literal(model);
            case 11:
                return (long) pick(1 << 30) * pick(1 << 30) * (1 - 2 * pick(2));
            case 15:
                return k == 1 ? pick(model.nodesGiven()) : pick(4);
            case 17:
                return pick(6);
            case 12:
            case 13:
            case 14:
                return pick(model.nodesGiven());
            default:
                return literal(model);
        }
    }

    /** Mostly of nodes that stand, as the calls with others only throw. */
    private static int literal(Model model) {
        int kind = pick(40);
        if (kind < 2) {
            return pick(2 * model.nodesGiven());
        }
        if (kind < 3) {
            return pick(2);
        }
        return model.someOf(kind < 24 ? "and" : kind < 36 ? "input" : kind < 38 ? "latch" : "outlet", pick(1000));
    }

    private static void askAll(int run, StringBuilder told, InverterGraphs x, Model model) {
        ask(run, told, x, model, 16);
        ask(run, told, x, model, 11, run);
        for (int what = 0; what < 6; what++) {
            ask(run, told, x, model, 17, what);
        }
        for (int k = 0; k < model.outputsGiven(); k++) {
            ask(run, told, x, model, 3, k);
        }
        for (int node = 0; node < model.nodesGiven(); node++) {
            for (int what = 0; what < 4; what++) {
                ask(run, told, x, model, 15, node, what);
            }
            ask(run, told, x, model, 6, 2 * node + 1);
            ask(run, told, x, model, 12, node);
            ask(run, told, x, model, 13, node);
            ask(run, told, x, model, 14, node);
        }
    }

    private static void ask(int run, StringBuilder told, InverterGraphs x, Model model, long... call) {
        String want = model.call(call);
        String got = Check.outcome(() -> answer(x, call));
        boolean thrown = want.startsWith("throws.");
        answered[(int) call[0]] += thrown ? 0 : 1;
        threw[(int) call[0]] += thrown ? 1 : 0;
        StringBuilder name = new StringBuilder(NAMES[(int) call[0]]);
        for (int k = 1; k < call.length; k++) {
            name.append(' ').append(call[k]);
        }
        if (call[0] < 12 && call[0] != 3 && call[0] != 6) {
            told.append(name).append("; ");
        }
        if (!want.equals(got)) {
            System.out.println("run " + run + " (reads left out): " + told);
        }
        check.due(name.toString(), want, got);
    }

    private static long answer(InverterGraphs x, long[] call) {
        int a = call.length > 1 ? (int) call[1] : 0;
        int b = call.length > 2 ? (int) call[2] : 0;
        switch ((int) call[0]) {
            case 0: return x.input();
            case 1: return x.and(a, b);
            case 2: return x.output(a);
            case 3: return x.outputAt(a);
            case 4: return x.latch(a);
            case 5: return x.next(a, b) ? 1 : 0;
            case 6: return x.nextOf(a);
            case 7: return x.box(a, b);
            case 8: return x.replace(a, b);
            case 9: return x.sweep();
            case 10: return x.undo() ? 1 : 0;
            case 11: return x.simulate(call[1]);
            case 12: return x.row(a);
            case 13: return x.level(a);
            case 14: return x.fan(a);
            case 15: return x.node(a, b);
            case 16: return x.size();
            default: return x.count(a);
        }
    }
}
