/** The sentences of promises 10 to 19, each with its own test. */
final class LaterPromiseSentences {
    private static final int LEAST = Integer.MIN_VALUE;
    private static final int MOST = Integer.MAX_VALUE;

    private LaterPromiseSentences() {
    }

    static void all(Sentences the) {
        the.holds("Promise 10", "A node (an input or an and) is replaced by a literal: 0,",
            LaterPromiseSentences::isReplaced);
        the.holds("Promise 10", "or 1 if it is refused.", LaterPromiseSentences::isRefused);
        the.holds("Promise 10", "IndexOutOfBoundsException;", LaterPromiseSentences::replaceNone);
        the.holds("Promise 10", "IllegalArgumentException (also: it is neither).", LaterPromiseSentences::itIsNeither);
        the.holds("Promise 11", "All ands that no output, latch or box stands above, over other ands,",
            LaterPromiseSentences::notStoodAbove);
        the.holds("Promise 11", "and that are none of theirs, are gone:", LaterPromiseSentences::noneOfTheirs);
        the.holds("Promise 11", "how many.", LaterPromiseSentences::howManySwept);
        the.holds("Promise 12", "The latest change is taken back:", LaterPromiseSentences::latestTakenBack);
        the.holds("Promise 12", "whether there is one.", LaterPromiseSentences::whetherThereIsOne);
        the.holds("Promise 12", "(Rows that were worked out are gone by it.)", LaterPromiseSentences::rowsGoneByIt);
        rows(the);
        levelsAndUses(the);
        nodes(the);
        counts(the);
    }

    private static void rows(Sentences the) {
        the.holds("Promise 13", "Rows are worked out: of how many nodes that are not gone",
            LaterPromiseSentences::ofHowMany);
        the.holds("Promise 13", "(FALSE, too).", LaterPromiseSentences::falseToo);
        the.holds("Promise 14", "The row of a node.", LaterPromiseSentences::rowOfNode);
        the.holds("Promise 14", "IndexOutOfBoundsException;", LaterPromiseSentences::rowOfNone);
        the.holds("Promise 14", "IllegalStateException: there was a change since the latest simulate(),",
            LaterPromiseSentences::changeSinceSimulate);
        the.holds("Promise 14", "or none was;", LaterPromiseSentences::noneWas);
        the.holds("Promise 14", "IllegalArgumentException.", LaterPromiseSentences::rowOfOneGone);
    }

    private static void levelsAndUses(Sentences the) {
        the.holds("Promise 15", "The level of a node.", LaterPromiseSentences::levelOfNode);
        the.holds("Promise 15", "IndexOutOfBoundsException;", LaterPromiseSentences::levelOfNone);
        the.holds("Promise 15", "IllegalArgumentException.", LaterPromiseSentences::levelOfOneGone);
        the.holds("Promise 16", "How many uses a node has.", LaterPromiseSentences::usesOfNode);
        the.holds("Promise 16", "IndexOutOfBoundsException;", LaterPromiseSentences::usesOfNone);
        the.holds("Promise 16", "IllegalArgumentException.", LaterPromiseSentences::usesOfOneGone);
    }

    private static void nodes(Sentences the) {
        the.holds("Promise 17", "Of a node: what = 0 its sort: 0 FALSE, 1 an input, 2 an and, 3 a latch, 4 an outlet, "
            + "5 it is gone;", LaterPromiseSentences::sorts);
        the.holds("Promise 17", "1 and 2 its fanins (NONE of others than ands),", LaterPromiseSentences::fanins);
        the.holds("Promise 17", "3 what stands for it when it was replaced (NONE else;",
            LaterPromiseSentences::whatStandsForIt);
        the.holds("Promise 17", "as it was then).", LaterPromiseSentences::asItWasThen);
        the.holds("Promise 17", "IndexOutOfBoundsException;", LaterPromiseSentences::noSuchNode);
        the.holds("Promise 17", "IllegalArgumentException: what is none of these.",
            LaterPromiseSentences::noneOfTheseOfNode);
        the.holds("Promise 18", "How many ands there are that are not gone.", LaterPromiseSentences::howManyAnds);
    }

    private static void counts(Sentences the) {
        the.holds("Promise 19", "How many: what = 0 numbers of nodes that were given,",
            LaterPromiseSentences::numbersGiven);
        the.holds("Promise 19", "1 inputs that are not gone,", LaterPromiseSentences::inputsNotGone);
        the.holds("Promise 19", "2 outputs (with those that went into boxes),",
            LaterPromiseSentences::outputsWithBoxes);
        the.holds("Promise 19", "3 latches,", LaterPromiseSentences::latches);
        the.holds("Promise 19", "4 changes that can be taken back,", LaterPromiseSentences::changesKept);
        the.holds("Promise 19", "5 the greatest level.", LaterPromiseSentences::greatestLevel);
        the.holds("Promise 19", "IllegalArgumentException: what is none of these.",
            LaterPromiseSentences::noneOfTheseToCount);
    }

    // ---- promise 10 ----

    private static void isReplaced(Check check) {
        InverterGraphs x = Make.inputs(4);
        int and = x.and(2, 4);
        int latch = x.latch(0);
        int outlet = x.box(0, 1);
        check.due("an and by an input", 0, x.replace(and / 2, 9));
        check.due("an input by an input", 0, x.replace(1, 4));
        check.due("an input by a latch", 0, x.replace(2, latch + 1));
        check.due("an input by an outlet", 0, x.replace(3, outlet));
        check.due("an input by 0", 0, x.replace(4, 0));
        int by = x.and(latch, outlet);
        check.due("an and by 1", 0, x.replace(by / 2, 1));
        int[] gone = {1, 2, 3, 4, and / 2, by / 2};
        int[] standIns = {4, latch + 1, outlet, 0, 9, 1};
        for (int k = 0; k < gone.length; k++) {
            check.due("gone: " + gone[k], 5, x.node(gone[k], 0));
            check.due("what stands for it", standIns[k], x.node(gone[k], 3));
        }
        check.due("an input by an and", 0, x.replace(x.input() / 2, x.and(latch, outlet + 1)));
    }

    private static void isRefused(Check check) {
        InverterGraphs x = Make.inputs(3);
        int and = x.and(2, 4);
        x.output(and);
        x.simulate(7);
        String before = Seen.of(x);
        check.due("by itself", 1, x.replace(1, 2));
        check.due("by itself, turned", 1, x.replace(and / 2, and + 1));
        check.due("by one above it", 1, x.replace(1, and));
        check.due("by one above it, turned", 1, x.replace(2, and + 1));
        check.due("nothing changed, rows are there", before, Seen.of(x));
        check.due("not refused", 0, x.replace(3, and));
    }

    private static void replaceNone(Check check) {
        InverterGraphs x = Make.inputs(2);
        int[] nodes = {3, 4, 400, -1, LEAST, MOST};
        for (int node : nodes) {
            check.outOfBounds("node " + node, () -> x.replace(node, 0));
        }
        int[] literals = {6, 7, 800, -1, -2, LEAST, MOST};
        for (int literal : literals) {
            check.outOfBounds("literal " + literal, () -> x.replace(1, literal));
            check.outOfBounds("FALSE by literal " + literal, () -> x.replace(0, literal));
        }
        check.due("none is gone", 2, x.count(1));
        check.due("the last node and literal: refused", 1, x.replace(2, 5));
        check.due("the last literal", 0, x.replace(1, 5));
    }

    private static void itIsNeither(Check check) {
        InverterGraphs x = Make.inputs(2);
        int latch = x.latch(0);
        int outlet = x.box(0, 2);
        int swept = x.and(2, 4);
        x.sweep();
        check.illegalArgument("FALSE", () -> x.replace(0, 2));
        check.illegalArgument("FALSE by itself", () -> x.replace(0, 1));
        check.illegalArgument("a latch", () -> x.replace(latch / 2, 2));
        check.illegalArgument("a latch by itself", () -> x.replace(latch / 2, latch));
        check.illegalArgument("an outlet", () -> x.replace(outlet / 2, 0));
        check.illegalArgument("the last outlet", () -> x.replace(outlet / 2 + 1, 0));
        check.illegalArgument("a swept and", () -> x.replace(swept / 2, 2));
        check.illegalArgument("by a swept and", () -> x.replace(1, swept));
        x.replace(1, 4);
        check.illegalArgument("an input that is gone", () -> x.replace(1, 4));
        check.illegalArgument("by an input that is gone", () -> x.replace(2, 3));
        check.due("nothing else is gone", 5, x.simulate(1));
    }

    // ---- promise 11 ----

    private static void notStoodAbove(Check check) {
        InverterGraphs x = Make.inputs(4);
        int low = x.and(2, 4);
        int mid = x.and(low + 1, 6);
        int top = x.and(mid, 8);
        int over = x.and(top, 3);
        x.output(top + 1);
        check.due("over is not below an output", 1, x.sweep());
        check.due("over is gone", 5, x.node(over / 2, 0));
        int[] stay = {low, mid, top};
        for (int and : stay) {
            check.due("over other ands the output stands above", 2, x.node(and / 2, 0));
        }
        x.box(1, 1);
        check.due("a box instead of the output", 0, x.sweep());
        int latched = x.and(low, 8);
        int latch = x.latch(0);
        x.next(latch, latched);
        check.due("a latch", 0, x.sweep());
        x.next(latch, 0);
        check.due("not any more", 1, x.sweep());
        check.due("low is below the box still", 2, x.node(low / 2, 0));
        afterReplacing(check);
    }

    private static void afterReplacing(Check check) {
        InverterGraphs x = Make.inputs(4);
        int first = x.and(2, 4);
        int second = x.and(6, 8);
        x.output(first);
        check.due("second is unused", 1, x.sweep());
        x.undo();
        x.replace(1, second);
        check.due("first stands above it, of a lesser number", 0, x.sweep());
        x.replace(second / 2, 9);
        check.due("that was replaced is no and that is swept", 0, x.sweep());
        check.due("what stands for it stays told", 9, x.node(second / 2, 3));
        InverterGraphs y = Make.chain();
        y.output(799);
        check.due("an output stands above all of a long chain", 0, y.sweep());
        y.undo();
        y.output(796);
        check.due("and above all but the last one", 1, y.sweep());
    }

    private static void noneOfTheirs(Check check) {
        InverterGraphs x = Make.inputs(3);
        int own = x.and(2, 4);
        int latched = x.and(2, 6);
        int boxed = x.and(4, 6);
        x.output(boxed + 1);
        x.box(1, 1);
        x.output(own);
        x.next(x.latch(0), latched + 1);
        check.due("each is one's own", 0, x.sweep());
        check.due("three ands", 3, x.size());
        x.undo();
        check.due("the latch has 0 again", 1, x.sweep());
        check.due("so that is gone", 5, x.node(latched / 2, 0));
        check.due("a swept one has no fanins", -1, x.node(latched / 2, 1));
        check.due("and nothing stands for it", -1, x.node(latched / 2, 3));
        check.due("inputs are no ands", 3, x.count(1));
        check.due("an input that nobody uses stays", 1, x.node(x.input() / 2, 0));
        check.due("latches and outlets, too", 0, x.sweep());
    }

    private static void howManySwept(Check check) {
        InverterGraphs x = new InverterGraphs();
        check.due("of nothing", 0, x.sweep());
        x.input();
        x.input();
        check.due("of no ands", 0, x.sweep());
        check.due("no change", 2, x.count(4));
        int and = x.and(2, 4);
        check.due("one", 1, x.sweep());
        check.due("it is a change", 4, x.count(4));
        check.due("none again", 0, x.sweep());
        check.due("which is no change", 4, x.count(4));
        for (int k = 0; k < 100; k++) {
            and = x.and(k == 0 ? 3 : and + 1, 4 + k % 2);
        }
        check.due("a hundred", 100, x.sweep());
        check.due("a hundred come back", true, x.undo());
        check.due("ands", 100, x.size());
        x.output(and);
        check.due("none below an output", 0, x.sweep());
    }

    // ---- promise 12 ----

    private static void latestTakenBack(Check check) {
        InverterGraphs x = Make.ofAllSorts();
        String before = Seen.of(x);
        x.replace(1, 5);
        check.due("a change", 5, x.node(1, 0));
        check.due("is taken back", true, x.undo());
        check.due("and all is as before it", before, Seen.of(x));
        x.box(0, 20);
        x.sweep();
        x.undo();
        x.undo();
        check.due("two changes, too", before, Seen.of(x));
        check.due("numbers are given anew", 22, x.input());
    }

    private static void whetherThereIsOne(Check check) {
        InverterGraphs x = new InverterGraphs();
        check.due("of a new object", false, x.undo());
        x.simulate(1);
        x.and(0, 1);
        Check.outcome(() -> x.latch(7));
        check.due("what changed nothing is none", false, x.undo());
        x.input();
        check.due("of one change", true, x.undo());
        check.due("not twice", false, x.undo());
        check.due("FALSE stays", 1, x.count(0));
        for (int k = 0; k < 31; k++) {
            x.latch(k % 2);
        }
        for (int k = 0; k < 30; k++) {
            check.due("of thirty-one: " + k, true, x.undo());
        }
        check.due("of thirty-one: the first", false, x.undo());
        check.due("one latch stays", 1, x.count(3));
    }

    private static void rowsGoneByIt(Check check) {
        InverterGraphs x = Make.inputs(2);
        x.simulate(5);
        x.undo();
        check.illegalState("rows of what was taken back", () -> x.row(1));
        check.illegalState("FALSE's, too", () -> x.row(0));
        check.outOfBounds("there is no node 2", () -> x.row(2));
        x.simulate(5);
        x.input();
        x.undo();
        check.illegalState("rows from before the change don't come back", () -> x.row(1));
        x.simulate(5);
        check.due("worked out again", 0, x.row(0));
        x.undo();
        x.simulate(6);
        check.due("nothing is left", false, x.undo());
        check.due("so nothing was taken back, and rows stay", 0, x.row(0));
    }

    // ---- promises 13 and 14 ----

    private static void ofHowMany(Check check) {
        InverterGraphs x = Make.inputs(2);
        check.due("inputs", 3, x.simulate(1));
        int and = x.and(2, 4);
        x.latch(0);
        x.box(0, 2);
        check.due("each sort", 7, x.simulate(-1));
        x.output(2);
        check.due("outputs are no nodes", 7, x.simulate(0));
        x.sweep();
        check.due("a swept one is not", 6, x.simulate(Long.MAX_VALUE));
        x.replace(1, 4);
        check.due("nor a replaced one", 5, x.simulate(Long.MIN_VALUE));
        check.due("again", 5, x.simulate(Long.MIN_VALUE));
        x.undo();
        x.undo();
        check.due("all are back", 7, x.simulate(1));
        check.due("the and has a row", x.row(1) & x.row(2), x.row(and / 2));
        check.due("of 400", 400, Make.filled(400).simulate(1));
    }

    private static void falseToo(Check check) {
        InverterGraphs x = new InverterGraphs();
        check.due("FALSE alone", 1, x.simulate(3));
        check.due("has a row", 0, x.row(0));
        x.input();
        x.replace(1, 1);
        check.due("FALSE is left", 1, x.simulate(3));
    }

    private static final long FIRST_FROM_0 = 0xE220A8397B1DCDAFL;
    private static final long SECOND_FROM_0 = 0x6E789E6AA1B965F4L;

    private static void rowOfNode(Check check) {
        InverterGraphs x = Make.inputs(1);
        int latch = x.latch(1);
        int and = x.and(3, latch);
        check.due("rows", 4, x.simulate(0));
        check.due("FALSE", 0, x.row(0));
        check.due("an input", FIRST_FROM_0, x.row(1));
        check.due("a latch", SECOND_FROM_0, x.row(latch / 2));
        check.due("an and", ~FIRST_FROM_0 & SECOND_FROM_0, x.row(and / 2));
        x.simulate(1234567);
        check.due("of the latest simulate", 6457827717110365317L, x.row(1));
    }

    private static void rowOfNone(Check check) {
        InverterGraphs x = Make.inputs(1);
        int[] none = {2, 3, 400, -1, LEAST, MOST};
        for (int node : none) {
            check.outOfBounds("before, " + node, () -> x.row(node));
        }
        x.simulate(0);
        for (int node : none) {
            check.outOfBounds("node " + node, () -> x.row(node));
        }
        check.due("the last one", FIRST_FROM_0, x.row(1));
    }

    private interface Doing {
        long with(InverterGraphs x);
    }

    private static void changeSinceSimulate(Check check) {
        Doing[] changes = {
            x -> x.input(), x -> x.and(2, 5), x -> x.output(2), x -> x.latch(0), x -> x.next(14, 2) ? 1 : 0,
            x -> x.box(0, 1), x -> x.replace(3, 2), x -> x.sweep(), x -> x.undo() ? 1 : 0,
        };
        for (int k = 0; k < changes.length; k++) {
            InverterGraphs x = Make.ofAllSorts();
            x.simulate(0);
            check.due("before change " + k, FIRST_FROM_0, x.row(1));
            changes[k].with(x);
            check.illegalState("after change " + k, () -> x.row(1));
            x.simulate(0);
            check.due("after the next simulate " + k, FIRST_FROM_0, x.row(1));
        }
        Doing[] none = {
            x -> x.and(4, 2), x -> x.and(2, 0), x -> x.next(14, 9) ? 1 : 0, x -> x.replace(1, 10), x -> x.outputAt(0),
            x -> x.nextOf(14), x -> x.level(4), x -> x.fan(4), x -> x.node(4, 1), x -> x.size(), x -> x.count(5),
        };
        InverterGraphs x = Make.ofAllSorts();
        x.simulate(0);
        for (int k = 0; k < none.length; k++) {
            none[k].with(x);
            check.due("no change " + k, FIRST_FROM_0, x.row(1));
        }
    }

    private static void noneWas(Check check) {
        InverterGraphs x = new InverterGraphs();
        check.illegalState("of a new object", () -> x.row(0));
        x.input();
        check.illegalState("of an input", () -> x.row(1));
        x.undo();
        check.illegalState("taken back", () -> x.row(0));
        x.simulate(0);
        check.due("one was", 0, x.row(0));
    }

    private static void rowOfOneGone(Check check) {
        InverterGraphs x = Make.inputs(2);
        int swept = x.and(2, 4) / 2;
        x.sweep();
        x.replace(2, 2);
        x.simulate(0);
        check.illegalArgument("replaced", () -> x.row(2));
        check.illegalArgument("swept", () -> x.row(swept));
        check.due("one that stands", FIRST_FROM_0, x.row(1));
        x.undo();
        x.simulate(0);
        check.due("back again", SECOND_FROM_0, x.row(2));
    }

    // ---- promises 15 and 16 ----

    private static void levelOfNode(Check check) {
        InverterGraphs x = Make.ofAllSorts();
        int[] levels = {0, 0, 0, 0, 1, 2, 3, 0, 0, 0};
        for (int node = 0; node < levels.length; node++) {
            check.due("level of " + node, levels[node], x.level(node));
        }
        x.replace(4, 2);
        check.due("one less", 1, x.level(5));
        check.due("one less", 2, x.level(6));
        x.undo();
        check.due("taken back", 3, x.level(6));
    }

    private static void levelOfNone(Check check) {
        InverterGraphs x = Make.inputs(1);
        int[] none = {2, 3, 400, -1, LEAST, MOST};
        for (int node : none) {
            check.outOfBounds("node " + node, () -> x.level(node));
        }
        check.due("the last one", 0, x.level(1));
    }

    private static void levelOfOneGone(Check check) {
        InverterGraphs x = Make.inputs(2);
        int swept = x.and(2, 4) / 2;
        x.sweep();
        x.replace(2, 2);
        check.illegalArgument("replaced", () -> x.level(2));
        check.illegalArgument("swept", () -> x.level(swept));
        check.due("one that stands", 0, x.level(1));
    }

    private static void usesOfNode(Check check) {
        InverterGraphs x = Make.ofAllSorts();
        int[] uses = {0, 1, 3, 1, 2, 2, 0, 0, 0, 0};
        for (int node = 0; node < uses.length; node++) {
            check.due("uses of " + node, uses[node], x.fan(node));
        }
        x.sweep();
        check.due("without the swept one's", 2, x.fan(2));
        check.due("without the swept one's", 1, x.fan(5));
    }

    private static void usesOfNone(Check check) {
        InverterGraphs x = Make.inputs(1);
        int[] none = {2, 3, 400, -1, LEAST, MOST};
        for (int node : none) {
            check.outOfBounds("node " + node, () -> x.fan(node));
        }
        check.due("the last one", 0, x.fan(1));
    }

    private static void usesOfOneGone(Check check) {
        InverterGraphs x = Make.inputs(2);
        int swept = x.and(2, 4) / 2;
        x.sweep();
        x.output(4);
        x.replace(2, 2);
        check.illegalArgument("replaced", () -> x.fan(2));
        check.illegalArgument("swept", () -> x.fan(swept));
        check.due("what stands for it", 1, x.fan(1));
    }

    // ---- promises 17 and 18 ----

    private static void sorts(Check check) {
        InverterGraphs x = Make.ofAllSorts();
        int[] sorts = {0, 1, 1, 1, 2, 2, 2, 3, 4, 4, 5};
        for (int node = 0; node < sorts.length; node++) {
            check.due("sort of " + node, sorts[node], x.node(node, 0));
        }
        x.sweep();
        check.due("a swept one is gone", 5, x.node(6, 0));
        x.replace(5, 0);
        check.due("a replaced one is gone", 5, x.node(5, 0));
        x.undo();
        check.due("taken back", 2, x.node(5, 0));
    }

    private static void fanins(Check check) {
        InverterGraphs x = Make.ofAllSorts();
        int[] lesser = {-1, -1, -1, -1, 2, 6, 4, -1, -1, -1, -1};
        int[] greater = {-1, -1, -1, -1, 4, 9, 11, -1, -1, -1, -1};
        for (int node = 0; node < lesser.length; node++) {
            check.due("1 of " + node, lesser[node], x.node(node, 1));
            check.due("2 of " + node, greater[node], x.node(node, 2));
        }
        x.replace(6, 2);
        check.due("a replaced one has none", -1, x.node(6, 1));
        check.due("a replaced one has none", InverterGraphs.NONE, x.node(6, 2));
        x.undo();
        x.sweep();
        check.due("a swept one has none", -1, x.node(6, 1));
        check.due("a swept one has none", -1, x.node(6, 2));
    }

    private static void whatStandsForIt(Check check) {
        InverterGraphs x = Make.ofAllSorts();
        for (int node = 0; node < 10; node++) {
            check.due("nothing for " + node, -1, x.node(node, 3));
        }
        check.due("the one replaced", 7, x.node(10, 3));
        x.sweep();
        check.due("nothing for one swept", InverterGraphs.NONE, x.node(6, 3));
        x.replace(1, 0);
        check.due("0 is not nothing", 0, x.node(1, 3));
        check.due("an and that was replaced by it", 0, x.node(4, 3));
        check.due("and one by the other one", 6, x.node(5, 3));
        x.undo();
        check.due("taken back: nothing", -1, x.node(1, 3));
        check.due("taken back: nothing", -1, x.node(5, 3));
    }

    private static void asItWasThen(Check check) {
        InverterGraphs x = Make.inputs(4);
        x.replace(1, 5);
        x.replace(2, 7);
        x.replace(3, 8);
        check.due("the first", 5, x.node(1, 3));
        check.due("the second", 7, x.node(2, 3));
        check.due("the third", 8, x.node(3, 3));
        InverterGraphs y = Make.inputs(3);
        int low = y.and(2, 4);
        int high = y.and(low + 1, 4);
        y.replace(1, 0);
        check.due("high was b", 4, y.node(high / 2, 3));
        y.replace(2, 6);
        check.due("b was c later", 4, y.node(high / 2, 3));
    }

    private static void noSuchNode(Check check) {
        InverterGraphs x = Make.inputs(1);
        int[] none = {2, 3, 400, -1, LEAST, MOST};
        for (int node : none) {
            for (int what = 0; what <= 3; what++) {
                int asked = what;
                check.outOfBounds("node " + node, () -> x.node(node, asked));
            }
        }
        check.due("the last one", 1, x.node(1, 0));
    }

    private static void noneOfTheseOfNode(Check check) {
        InverterGraphs x = Make.ofAllSorts();
        int[] none = {4, 5, -1, LEAST, MOST};
        for (int what : none) {
            check.illegalArgument("FALSE, " + what, () -> x.node(0, what));
            check.illegalArgument("an and, " + what, () -> x.node(4, what));
            check.illegalArgument("one gone, " + what, () -> x.node(10, what));
        }
        check.due("0 is the first of these", 2, x.node(4, 0));
        check.due("3 is the last of these", -1, x.node(4, 3));
        check.due("of one gone, too", 7, x.node(10, 3));
    }

    private static void howManyAnds(Check check) {
        InverterGraphs x = Make.inputs(3);
        check.due("none", 0, x.size());
        x.latch(0);
        x.box(0, 1);
        x.and(2, 2);
        check.due("others are no ands", 0, x.size());
        int and = x.and(2, 4);
        x.and(4, 2);
        check.due("one", 1, x.size());
        int high = x.and(and, 6);
        x.and(high, 3);
        check.due("three", 3, x.size());
        x.replace(and / 2, 7);
        check.due("replaced ones are gone", 0, x.size());
        x.undo();
        check.due("three again", 3, x.size());
        x.output(high);
        x.sweep();
        check.due("a swept one is gone", 2, x.size());
        check.due("as many as there is room for", 397, Make.chain().size());
    }

    // ---- promise 19 ----

    private static void numbersGiven(Check check) {
        InverterGraphs x = Make.ofAllSorts();
        check.due("FALSE and ten", 11, x.count(0));
        x.sweep();
        x.replace(1, 0);
        check.due("those gone, too", 11, x.count(0));
        x.box(0, 20);
        check.due("twenty more", 31, x.count(0));
        x.undo();
        check.due("taken back", 11, x.count(0));
        check.due("the most", 400, Make.filled(400).count(0));
        check.due("the least", 1, new InverterGraphs().count(0));
    }

    private static void inputsNotGone(Check check) {
        InverterGraphs x = Make.ofAllSorts();
        check.due("without the one that is gone", 3, x.count(1));
        x.replace(1, 4);
        check.due("one less", 2, x.count(1));
        x.replace(2, 0);
        x.replace(3, 0);
        check.due("none", 0, x.count(1));
        x.undo();
        check.due("one again", 1, x.count(1));
        check.due("the most", 399, Make.inputs(399).count(1));
    }

    private static void outputsWithBoxes(Check check) {
        InverterGraphs x = Make.inputs(1);
        check.due("none", 0, x.count(2));
        x.output(2);
        x.output(2);
        check.due("two", 2, x.count(2));
        x.box(1, 1);
        check.due("with the one in the box", 2, x.count(2));
        x.box(0, 5);
        check.due("outlets are none", 2, x.count(2));
        x.output(3);
        check.due("three", 3, x.count(2));
        x.box(1, 1);
        x.undo();
        x.undo();
        check.due("taken back", 2, x.count(2));
    }

    private static void latches(Check check) {
        InverterGraphs x = Make.inputs(1);
        check.due("none", 0, x.count(3));
        x.latch(0);
        x.latch(1);
        x.box(0, 3);
        check.due("two, whatever they start with", 2, x.count(3));
        x.sweep();
        x.replace(1, 4);
        check.due("they stay", 2, x.count(3));
        x.undo();
        x.undo();
        x.undo();
        check.due("taken back", 1, x.count(3));
    }

    private static void changesKept(Check check) {
        InverterGraphs x = new InverterGraphs();
        check.due("none", 0, x.count(4));
        for (int k = 1; k <= 35; k++) {
            x.input();
            check.due("after " + k, Math.min(k, 30), x.count(4));
        }
        for (int k = 29; k >= 0; k--) {
            x.undo();
            check.due("left", k, x.count(4));
        }
        x.undo();
        check.due("not below none", 0, x.count(4));
        x.input();
        check.due("one again", 1, x.count(4));
    }

    private static void greatestLevel(Check check) {
        InverterGraphs x = Make.inputs(2);
        check.due("none", 0, x.count(5));
        int low = x.and(2, 4);
        check.due("one", 1, x.count(5));
        int high = x.and(low + 1, 2);
        x.and(3, 5);
        check.due("not the latest one's", 2, x.count(5));
        x.replace(high / 2, 4);
        check.due("not of one gone", 1, x.count(5));
        x.sweep();
        check.due("none is left", 0, x.count(5));
        x.undo();
        x.undo();
        check.due("taken back", 2, x.count(5));
        check.due("the most", 397, Make.chain().count(5));
        InverterGraphs y = Make.inputs(4);
        y.and(2, 4);
        y.replace(1, y.and(6, 8));
        check.due("of a lesser number above a greater", 2, y.count(5));
    }

    private static void noneOfTheseToCount(Check check) {
        InverterGraphs x = Make.inputs(1);
        int[] none = {6, 7, -1, LEAST, MOST};
        for (int what : none) {
            check.illegalArgument("count " + what, () -> x.count(what));
        }
        check.due("0 is the first of these", 2, x.count(0));
        check.due("5 is the last of these", 0, x.count(5));
    }
}
