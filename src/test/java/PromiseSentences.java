/** The sentences of promises 1 to 9, each with its own test. */
final class PromiseSentences {
    private static final int LEAST = Integer.MIN_VALUE;
    private static final int MOST = Integer.MAX_VALUE;

    private PromiseSentences() {
    }

    static void all(Sentences the) {
        the.holds("Promise 1", "FALSE alone.", PromiseSentences::falseAlone);
        the.holds("Promise 2", "A new input: its literal.", PromiseSentences::newInput);
        the.holds("Promise 2", "UnsupportedOperationException.", PromiseSentences::inputTooMany);
        the.holds("Promise 3", "An and of two literals: its literal.", PromiseSentences::andOfTwo);
        the.holds("Promise 3", "IndexOutOfBoundsException;", PromiseSentences::andOfNone);
        the.holds("Promise 3", "IllegalArgumentException;", PromiseSentences::andOfOneGone);
        the.holds("Promise 3", "UnsupportedOperationException.", PromiseSentences::andTooMany);
        outputs(the);
        latches(the);
        boxes(the);
    }

    private static void outputs(Sentences the) {
        the.holds("Promise 4", "A new output, of a literal: its number, from 0 on.", PromiseSentences::newOutput);
        the.holds("Promise 4", "IndexOutOfBoundsException;", PromiseSentences::outputOfNone);
        the.holds("Promise 4", "IllegalArgumentException;", PromiseSentences::outputOfOneGone);
        the.holds("Promise 4", "UnsupportedOperationException: there are 40.", PromiseSentences::fortyOutputs);
        the.holds("Promise 5", "The literal of output k;", PromiseSentences::literalOfOutput);
        the.holds("Promise 5", "NONE if it went into a box.", PromiseSentences::noneInABox);
        the.holds("Promise 5", "IndexOutOfBoundsException.", PromiseSentences::noSuchOutput);
    }

    private static void latches(Sentences the) {
        the.holds("Promise 6", "A new latch, that starts with 0 or 1,", PromiseSentences::newLatch);
        the.holds("Promise 6", "and gets 0 next: its literal.", PromiseSentences::getsFalseNext);
        the.holds("Promise 6", "IllegalArgumentException: start is neither;", PromiseSentences::startIsNeither);
        the.holds("Promise 6", "UnsupportedOperationException.", PromiseSentences::latchTooMany);
        the.holds("Promise 7", "A latch (its literal, turned or not) gets another literal next:",
            PromiseSentences::getsAnother);
        the.holds("Promise 7", "whether it had another one.", PromiseSentences::whetherItHadAnother);
        the.holds("Promise 7", "IndexOutOfBoundsException;", PromiseSentences::nextOfNone);
        the.holds("Promise 7", "IllegalArgumentException (also: it is no latch).", PromiseSentences::nextOfNoLatch);
        the.holds("Promise 8", "What a latch gets next.", PromiseSentences::whatItGets);
        the.holds("Promise 8", "IndexOutOfBoundsException;", PromiseSentences::nextAskedOfNone);
        the.holds("Promise 8", "IllegalArgumentException: it is no latch.", PromiseSentences::nextAskedOfNoLatch);
    }

    private static void boxes(Sentences the) {
        the.holds("Promise 9", "A box that the latest outputs, so many, go into (these have NONE then),",
            PromiseSentences::latestOutputsGo);
        the.holds("Promise 9", "with so many outlets, new nodes: the literal of the first one.",
            PromiseSentences::outlets);
        the.holds("Promise 9", "IllegalArgumentException: inputs are below 0,", PromiseSentences::inputsBelowZero);
        the.holds("Promise 9", "or there are not so many outputs behind the latest one that went into a box;",
            PromiseSentences::notSoMany);
        the.holds("Promise 9", "outputs are not 1 .. 20;", PromiseSentences::oneToTwentyOutlets);
        the.holds("Promise 9", "UnsupportedOperationException.", PromiseSentences::boxTooMany);
    }

    // ---- promises 1 to 3 ----

    private static void falseAlone(Check check) {
        InverterGraphs x = new InverterGraphs();
        int[] counts = {1, 0, 0, 0, 0, 0};
        for (int what = 0; what < counts.length; what++) {
            check.due("count " + what, counts[what], x.count(what));
        }
        check.due("no ands", 0, x.size());
        int[] ofFalse = {0, -1, -1, -1};
        for (int what = 0; what < ofFalse.length; what++) {
            check.due("FALSE, " + what, ofFalse[what], x.node(0, what));
        }
        check.due("its level", 0, x.level(0));
        check.due("unused", 0, x.fan(0));
        check.outOfBounds("no other node", () -> x.node(1, 0));
        check.outOfBounds("no output", () -> x.outputAt(0));
        check.illegalState("no rows", () -> x.row(0));
        check.illegalArgument("no output for a box", () -> x.box(1, 1));
        check.due("nothing to take back", false, x.undo());
        check.due("nothing to sweep", 0, x.sweep());
        check.due("one row", 1, x.simulate(0));
        check.due("true and true", 1, x.and(1, 1));
        check.due("an output of it", 0, x.output(0));
        InverterGraphs y = new InverterGraphs();
        check.due("objects have nothing in common", 0, y.count(2));
    }

    private static void newInput(Check check) {
        InverterGraphs x = new InverterGraphs();
        for (int k = 1; k <= 100; k++) {
            check.due("input " + k, 2 * k, x.input());
        }
        check.due("its sort", 1, x.node(100, 0));
        check.due("all are inputs", 100, x.count(1));
    }

    private static void inputTooMany(Check check) {
        InverterGraphs x = Make.inputs(399);
        check.due("399 inputs and FALSE", 400, x.count(0));
        check.due("the last one", 1, x.node(399, 0));
        check.unsupported("one more", () -> x.input());
        check.due("none came", 399, x.count(1));
        x.undo();
        check.due("room for one", 798, x.input());
        check.unsupported("and no more", () -> x.input());
    }

    private static void andOfTwo(Check check) {
        InverterGraphs x = Make.inputs(3);
        check.due("of inputs", 8, x.and(2, 4));
        check.due("of an and turned and an input", 10, x.and(9, 6));
        check.due("sort", 2, x.node(5, 0));
        check.due("lesser", 6, x.node(5, 1));
        check.due("greater", 9, x.node(5, 2));
        check.due("the same", 10, x.and(6, 9));
        check.due("none is needed", 9, x.and(9, 9));
    }

    private static void andOfNone(Check check) {
        InverterGraphs x = Make.inputs(1);
        int[] none = {4, 5, -1, LEAST, MOST};
        for (int literal : none) {
            check.outOfBounds("and " + literal, () -> x.and(literal, 3));
            check.outOfBounds("and 3 " + literal, () -> x.and(3, literal));
            check.outOfBounds("and 0 " + literal, () -> x.and(0, literal));
            check.outOfBounds("and 1 " + literal, () -> x.and(1, literal));
        }
        check.due("no node came", 2, x.count(0));
        check.due("the last literals", 0, x.and(3, 2));
    }

    private static void andOfOneGone(Check check) {
        InverterGraphs x = Make.inputs(2);
        x.replace(1, 4);
        check.illegalArgument("the first", () -> x.and(2, 4));
        check.illegalArgument("the second, turned", () -> x.and(4, 3));
        check.illegalArgument("both", () -> x.and(2, 3));
        check.illegalArgument("with 0", () -> x.and(2, 0));
        check.illegalArgument("with 1", () -> x.and(1, 2));
        check.due("no and came", 0, x.size());
    }

    private static void andTooMany(Check check) {
        InverterGraphs x = Make.filled(399);
        check.due("the last one", 798, x.and(2, 4));
        check.unsupported("one more", () -> x.and(2, 5));
        check.unsupported("above it", () -> x.and(798, 5));
        check.due("none came", 1, x.size());
        check.due("that is no new one", 798, x.and(2, 4));
        check.due("nor is 0", 0, x.and(0, 5));
        x.undo();
        check.due("room for another", 798, x.and(2, 5));
    }

    // ---- promises 4 and 5 ----

    private static void newOutput(Check check) {
        InverterGraphs x = Make.inputs(1);
        int[] literals = {0, 1, 2, 3, 3, 3};
        for (int k = 0; k < literals.length; k++) {
            check.due("output " + k, k, x.output(literals[k]));
            check.due("outputs", k + 1, x.count(2));
        }
        x.box(3, 1);
        check.due("numbers go on behind those in a box", 6, x.output(4));
        for (int k = 0; k < 3; k++) {
            check.due("its literal", literals[k], x.outputAt(k));
        }
    }

    private static void outputOfNone(Check check) {
        InverterGraphs x = Make.inputs(1);
        int[] none = {4, 5, -1, LEAST, MOST};
        for (int literal : none) {
            check.outOfBounds("output " + literal, () -> x.output(literal));
        }
        check.due("none came", 0, x.count(2));
        check.due("the last literal", 0, x.output(3));
    }

    private static void outputOfOneGone(Check check) {
        InverterGraphs x = Make.inputs(2);
        x.replace(2, 2);
        check.illegalArgument("gone", () -> x.output(4));
        check.illegalArgument("gone, turned", () -> x.output(5));
        check.due("none came", 0, x.count(2));
        check.due("what stands for it", 0, x.output(2));
    }

    private static void fortyOutputs(Check check) {
        InverterGraphs x = Make.inputs(1);
        for (int k = 0; k < 39; k++) {
            x.output(2);
        }
        check.due("the 40th", 39, x.output(3));
        check.unsupported("the 41st", () -> x.output(2));
        check.unsupported("the 41st, of FALSE", () -> x.output(0));
        check.due("forty", 40, x.count(2));
        check.due("the latest one", 3, x.outputAt(39));
        x.box(40, 1);
        check.unsupported("those in a box count", () -> x.output(2));
        x.undo();
        x.undo();
        check.due("room for one", 39, x.output(0));
        check.unsupported("and no more", () -> x.output(0));
    }

    private static void literalOfOutput(Check check) {
        InverterGraphs x = Make.inputs(3);
        int[] literals = {7, 0, 2, 1, 6};
        for (int literal : literals) {
            x.output(literal);
        }
        for (int k = 0; k < literals.length; k++) {
            check.due("output " + k, literals[k], x.outputAt(k));
        }
        x.replace(3, 5);
        check.due("the first one, replaced", 4, x.outputAt(0));
        check.due("the last one, replaced", 5, x.outputAt(4));
        check.due("another one stays", 2, x.outputAt(2));
    }

    private static void noneInABox(Check check) {
        InverterGraphs x = Make.inputs(1);
        x.output(2);
        x.output(2);
        x.output(3);
        x.box(2, 1);
        check.due("before those", 2, x.outputAt(0));
        check.due("the first that went", -1, x.outputAt(1));
        check.due("the last that went", InverterGraphs.NONE, x.outputAt(2));
        x.output(3);
        check.due("behind those", 3, x.outputAt(3));
        x.replace(1, 1);
        check.due("a replacing brings none back", -1, x.outputAt(1));
        x.undo();
        x.undo();
        x.undo();
        check.due("taken back", 2, x.outputAt(1));
        check.due("taken back", 3, x.outputAt(2));
    }

    private static void noSuchOutput(Check check) {
        InverterGraphs x = Make.inputs(1);
        check.outOfBounds("of none", () -> x.outputAt(0));
        x.output(2);
        check.due("the only one", 2, x.outputAt(0));
        int[] none = {1, 2, 40, -1, LEAST, MOST};
        for (int k : none) {
            check.outOfBounds("output " + k, () -> x.outputAt(k));
        }
        for (int k = 1; k < 40; k++) {
            x.output(3);
        }
        check.due("the last of forty", 3, x.outputAt(39));
        check.outOfBounds("behind forty", () -> x.outputAt(40));
    }

    // ---- promises 6 to 8 ----

    private static void newLatch(Check check) {
        InverterGraphs x = new InverterGraphs();
        check.due("starts with 0", 2, x.latch(0));
        check.due("starts with 1", 4, x.latch(1));
        check.due("sort of the first", 3, x.node(1, 0));
        check.due("sort of the second", 3, x.node(2, 0));
        check.due("two", 2, x.count(3));
        check.due("an and of them", 6, x.and(2, 4));
    }

    private static void getsFalseNext(Check check) {
        InverterGraphs x = new InverterGraphs();
        for (int start = 0; start <= 1; start++) {
            int latch = x.latch(start);
            check.due("starts with " + start, 0, x.nextOf(latch));
            check.due("its literal", 2 + 2 * start, latch);
        }
        check.due("two uses of FALSE", 2, x.fan(0));
        check.due("0 is no other one", false, x.next(4, 0));
        x.next(2, 5);
        x.undo();
        check.due("0 again, taken back", 0, x.nextOf(2));
    }

    private static void startIsNeither(Check check) {
        InverterGraphs x = new InverterGraphs();
        int[] neither = {2, -1, 3, LEAST, MOST};
        for (int start : neither) {
            check.illegalArgument("start " + start, () -> x.latch(start));
        }
        check.due("no latch came", 0, x.count(3));
        check.due("no node came", 1, x.count(0));
        check.due("no change", 0, x.count(4));
    }

    private static void latchTooMany(Check check) {
        InverterGraphs x = Make.filled(399);
        check.due("the last one", 798, x.latch(0));
        check.unsupported("one more that starts with 0", () -> x.latch(0));
        check.unsupported("one more that starts with 1", () -> x.latch(1));
        check.due("one came", 1, x.count(3));
        x.undo();
        check.due("room for one", 798, x.latch(1));
    }

    private static void getsAnother(Check check) {
        InverterGraphs x = Make.inputs(1);
        int latch = x.latch(1);
        int other = x.latch(0);
        int and = x.and(2, latch);
        int outlet = x.box(0, 1);
        int[] literals = {1, 0, 2, 3, latch, latch + 1, other, and + 1, and, outlet + 1};
        for (int literal : literals) {
            check.due("gets " + literal, true, x.next(latch, literal));
            check.due("has " + literal, literal, x.nextOf(latch));
        }
        check.due("the other one does not", 0, x.nextOf(other));
        check.due("named turned", true, x.next(other + 1, 3));
        check.due("gets it as it is", 3, x.nextOf(other));
        check.due("named turned, another one", true, x.next(other + 1, 2));
        check.due("gets it as it is", 2, x.nextOf(other));
    }

    private static void whetherItHadAnother(Check check) {
        InverterGraphs x = Make.inputs(1);
        int latch = x.latch(1);
        check.due("0, as a new one has it", false, x.next(latch, 0));
        check.due("1 is another one", true, x.next(latch, 1));
        check.due("1 again", false, x.next(latch, 1));
        check.due("1 again, named turned", false, x.next(latch + 1, 1));
        check.due("2 is another one", true, x.next(latch + 1, 2));
        check.due("2 turned is another one", true, x.next(latch, 3));
        check.due("the same, named turned", false, x.next(latch + 1, 3));
        check.due("three changes behind two", 5, x.count(4));
        x.replace(1, 0);
        check.due("it has what stands for it", false, x.next(latch, 1));
    }

    private static void nextOfNone(Check check) {
        InverterGraphs x = Make.inputs(1);
        int latch = x.latch(0);
        int[] none = {6, 7, -1, LEAST, MOST};
        for (int literal : none) {
            check.outOfBounds("of " + literal, () -> x.next(literal, 2) ? 1 : 0);
            check.outOfBounds("gets " + literal, () -> x.next(latch, literal) ? 1 : 0);
        }
        check.due("it has what it had", 0, x.nextOf(latch));
        check.due("the last literals", true, x.next(5, 5));
    }

    private static void nextOfNoLatch(Check check) {
        InverterGraphs x = Make.inputs(2);
        int and = x.and(2, 4);
        int latch = x.latch(0);
        int outlet = x.box(0, 1);
        int gone = x.input();
        x.replace(gone / 2, 2);
        int[] others = {0, 1, 2, 3, and, and + 1, outlet, outlet + 1, gone, gone + 1};
        for (int literal : others) {
            check.illegalArgument("of " + literal, () -> x.next(literal, 2) ? 1 : 0);
            check.illegalArgument("of " + literal + ", what it may have", () -> x.next(literal, 0) ? 1 : 0);
        }
        check.illegalArgument("gets one gone", () -> x.next(latch, gone) ? 1 : 0);
        check.illegalArgument("gets one gone, turned", () -> x.next(latch + 1, gone + 1) ? 1 : 0);
        check.due("it has what it had", 0, x.nextOf(latch));
        check.due("no change", 7, x.count(4));
    }

    private static void whatItGets(Check check) {
        InverterGraphs x = Make.inputs(2);
        int latch = x.latch(0);
        int other = x.latch(1);
        x.next(latch, 5);
        check.due("by its literal", 5, x.nextOf(latch));
        check.due("by its literal turned, the same", 5, x.nextOf(latch + 1));
        check.due("the other one", 0, x.nextOf(other));
        x.replace(2, 3);
        check.due("what stands for it", 2, x.nextOf(latch));
        check.due("turned, the same", 2, x.nextOf(latch + 1));
    }

    private static void nextAskedOfNone(Check check) {
        InverterGraphs x = new InverterGraphs();
        check.outOfBounds("of none", () -> x.nextOf(2));
        x.latch(0);
        int[] none = {4, 5, -1, LEAST, MOST};
        for (int literal : none) {
            check.outOfBounds("of " + literal, () -> x.nextOf(literal));
        }
        check.due("the last literal", 0, x.nextOf(3));
        x.undo();
        check.outOfBounds("taken back", () -> x.nextOf(2));
    }

    private static void nextAskedOfNoLatch(Check check) {
        InverterGraphs x = Make.inputs(2);
        int and = x.and(2, 4);
        int outlet = x.box(0, 1);
        int swept = x.and(3, 5);
        int[] others = {0, 1, 2, 3, and, and + 1, outlet, outlet + 1, swept};
        for (int literal : others) {
            check.illegalArgument("of " + literal, () -> x.nextOf(literal));
        }
        x.sweep();
        x.replace(1, 4);
        check.illegalArgument("of a swept one", () -> x.nextOf(swept));
        check.illegalArgument("of a replaced one", () -> x.nextOf(2));
    }

    // ---- promise 9 ----

    private static void latestOutputsGo(Check check) {
        InverterGraphs x = Make.inputs(4);
        for (int k = 0; k < 5; k++) {
            x.output(2 + k);
        }
        check.due("a box of two", 10, x.box(2, 1));
        int[] due = {2, 3, 4, -1, -1};
        for (int k = 0; k < due.length; k++) {
            check.due("output " + k, due[k], x.outputAt(k));
        }
        check.due("what went is used as before", 2, x.fan(2));
        check.due("what went is used as before", 1, x.fan(3));
        check.due("a box of none", 12, x.box(0, 1));
        check.due("takes none", 4, x.outputAt(2));
        check.due("outputs", 5, x.count(2));
        InverterGraphs y = Make.inputs(1);
        y.output(2);
        y.output(3);
        check.due("a box of all", 4, y.box(2, 1));
        check.due("the first one, too", -1, y.outputAt(0));
        check.due("and the last", -1, y.outputAt(1));
    }

    private static void outlets(Check check) {
        InverterGraphs x = Make.inputs(1);
        check.due("three", 4, x.box(0, 3));
        check.due("one behind them", 10, x.box(0, 1));
        check.due("twenty behind it", 12, x.box(0, 20));
        check.due("all are nodes", 26, x.count(0));
        for (int node = 2; node < 26; node++) {
            check.due("sort of " + node, 4, x.node(node, 0));
        }
        check.due("an and of the first and the last", 52, x.and(4, 50));
        x.undo();
        check.due("twenty are taken back at once", true, x.undo());
        check.due("nodes", 6, x.count(0));
    }

    private static void inputsBelowZero(Check check) {
        InverterGraphs x = Make.inputs(1);
        x.output(2);
        int[] below = {-1, -2, LEAST};
        for (int inputs : below) {
            check.illegalArgument("inputs " + inputs, () -> x.box(inputs, 1));
        }
        check.due("no node came", 2, x.count(0));
        check.due("the output stays", 2, x.outputAt(0));
        check.due("0 is the least", 4, x.box(0, 1));
    }

    private static void notSoMany(Check check) {
        InverterGraphs x = Make.inputs(1);
        check.illegalArgument("one of none", () -> x.box(1, 1));
        for (int k = 0; k < 5; k++) {
            x.output(2);
        }
        check.illegalArgument("six of five", () -> x.box(6, 1));
        check.illegalArgument("the most of five", () -> x.box(MOST, 1));
        check.due("two of five", 4, x.box(2, 1));
        check.illegalArgument("one of none behind these", () -> x.box(1, 1));
        x.output(3);
        x.output(2);
        check.due("none: no output went", 6, x.box(0, 1));
        check.illegalArgument("three of two", () -> x.box(3, 1));
        check.due("so the two are behind the latest still", 8, x.box(2, 1));
        check.illegalArgument("one of none", () -> x.box(1, 1));
        check.due("outputs before the boxes stay", 2, x.outputAt(2));
        x.undo();
        check.illegalArgument("three of two, taken back", () -> x.box(3, 1));
        check.due("one of two", 8, x.box(1, 1));
        check.due("the one before it stays", 3, x.outputAt(5));
        check.illegalArgument("but is not behind it", () -> x.box(1, 1));
    }

    private static void oneToTwentyOutlets(Check check) {
        InverterGraphs x = Make.inputs(1);
        x.output(2);
        int[] not = {0, 21, -1, 22, LEAST, MOST};
        for (int outlets : not) {
            check.illegalArgument("outlets " + outlets, () -> x.box(1, outlets));
            check.illegalArgument("outlets " + outlets + ", no inputs", () -> x.box(0, outlets));
        }
        check.due("no node came", 2, x.count(0));
        check.due("the output stays", 2, x.outputAt(0));
        check.due("20 are the most", 4, x.box(0, 20));
        check.due("1 is the least", 44, x.box(1, 1));
    }

    private static void boxTooMany(Check check) {
        InverterGraphs x = Make.filled(385);
        x.output(2);
        check.unsupported("sixteen for fifteen", () -> x.box(1, 16));
        check.unsupported("twenty for fifteen", () -> x.box(1, 20));
        check.due("the output stays", 2, x.outputAt(0));
        check.due("no outlet came", 385, x.count(0));
        check.due("fifteen for fifteen", 770, x.box(1, 15));
        check.due("the output went", -1, x.outputAt(0));
        check.due("the last outlet", 4, x.node(399, 0));
        check.unsupported("one for none", () -> x.box(0, 1));
        x.undo();
        check.due("room for them again", 770, x.box(0, 15));
    }
}
