import java.math.BigInteger;

/** The sentences of "What it is" and "Terms", each with its own test. */
final class TermsSentences {
    private static final int LEAST = Integer.MIN_VALUE;
    private static final int MOST = Integer.MAX_VALUE;

    private TermsSentences() {
    }

    static void all(Sentences the) {
        the.holds("What it is", "An object is used for at most 512 calls after it has been made",
            TermsSentences::fiveHundredAndTwelveCalls);
        nodesAndLiterals(the);
        makingAnds(the);
        replacing(the);
        levelsAndRows(the);
        changesAndThrows(the);
    }

    private static void nodesAndLiterals(Sentences the) {
        the.holds("Terms", "NODES have numbers 0, 1, ..; 0 is FALSE, others are INPUTS, ANDS, LATCHES or OUTLETS of "
            + "boxes; one may be GONE.", TermsSentences::numbersOfNodes);
        the.holds("Terms", "A LITERAL is 2 times a node's number, and 1 more when it is TURNED (true for false);",
            TermsSentences::literals);
        the.holds("Terms", "1 is true.", TermsSentences::oneIsTrue);
        the.holds("Terms", "An and has two literals, its FANINS, the lesser one first.",
            TermsSentences::lesserFaninFirst);
        the.holds("Terms", "All together there are at most 400 nodes", TermsSentences::fourHundredNodes);
        the.holds("Terms", "(those that are gone count).", TermsSentences::thoseGoneCount);
    }

    private static void makingAnds(Sentences the) {
        the.holds("Terms", "TO MAKE AN AND of two literals: both the same: that;", TermsSentences::bothTheSame);
        the.holds("Terms", "one the other one turned: 0;", TermsSentences::theOtherOneTurned);
        the.holds("Terms", "one of them 0: 0;", TermsSentences::oneOfThemFalse);
        the.holds("Terms", "one of them 1: the other one;", TermsSentences::oneOfThemTrue);
        the.holds("Terms", "else, if there is an and with just these fanins, its literal;",
            TermsSentences::anAndWithJustThese);
        the.holds("Terms", "else a new and's.", TermsSentences::elseANewOne);
        the.holds("Terms", "USES of a node: fanins of ands that are not gone,", TermsSentences::usesByAnds);
        the.holds("Terms", "outputs, what latches get next, what goes into boxes,", TermsSentences::usesByOthers);
        the.holds("Terms", "each time that it stands there.", TermsSentences::eachTime);
    }

    private static void replacing(Sentences the) {
        the.holds("Terms", "TO REPLACE a node by a literal: it is gone, and the literal (turned, where the node stands "
            + "turned) stands for it from now on.", TermsSentences::standsForIt);
        the.holds("Terms", "Then, as long as an and that is not gone has a fanin of a node that was replaced: of these "
            + "the one with the least number:", TermsSentences::leastNumberFirst);
        the.holds("Terms", "its fanins become what stands for them (as often as that is replaced again, too);",
            TermsSentences::asOftenAsReplacedAgain);
        the.holds("Terms", "if an and of these would not be a new one, itself left out,",
            TermsSentences::newOnesStay);
        the.holds("Terms", "it is replaced, too, by what that would be.", TermsSentences::whatThatWouldBe);
        the.holds("Terms", "In the end outputs, latches and boxes get what stands for theirs.",
            TermsSentences::usersInTheEnd);
        the.holds("Terms", "REPLACING IS REFUSED when the literal's node is the node,", TermsSentences::byItself);
        the.holds("Terms",
            "or stands above it: a node stands ABOVE its fanins, and above those that these stand above",
            TermsSentences::byOneAbove);
        the.holds("Terms", "(latches and outlets stand above none).", TermsSentences::aboveNone);
    }

    private static void levelsAndRows(Sentences the) {
        the.holds("Terms", "LEVEL: 0 of all but ands;", TermsSentences::levelZero);
        the.holds("Terms", "of an and one more than the greater one of its fanins' nodes.",
            TermsSentences::levelOfAnds);
        the.holds("Terms", "ROWS of sixty-four bits: FALSE has 0;", TermsSentences::rowOfFalse);
        the.holds("Terms", "the k-th (from 0) input, latch or outlet that is not gone, by numbers, has the mix of the "
            + "seed and k:", TermsSentences::kthSource);
        the.holds("Terms", "z = seed + (k + 1) 0x9E3779B97F4A7C15; z = (z xor z moved 30 down) 0xBF58476D1CE4E5B9; "
            + "z = (z xor z moved 27 down) 0x94D049BB133111EB; z xor z moved 31 down", TermsSentences::mixes);
        the.holds("Terms", "(all wraps; moved down: 0s come from above);", TermsSentences::mixesWrap);
        the.holds("Terms", "an and has what both fanins have, a turned one's bits being the other ones.",
            TermsSentences::rowsOfAnds);
    }

    private static void changesAndThrows(Sentences the) {
        the.holds("Terms",
            "CHANGES are calls of input(), and(), output(), latch(), next(), replace(), sweep() and box()",
            TermsSentences::changes);
        the.holds("Terms", "that changed something;", TermsSentences::thatChangedSomething);
        the.holds("Terms", "the latest 30 can be taken back,", TermsSentences::thirtyCanBeTakenBack);
        the.holds("Terms", "the latest first.", TermsSentences::latestFirst);
        the.holds("Terms", "Methods throw what their comments name, the one named first when several would do.",
            TermsSentences::theOneNamedFirst);
        the.holds("Terms", "IndexOutOfBoundsException: there never was such a node (or output).",
            TermsSentences::neverWas);
        the.holds("Terms", "IllegalArgumentException: a node is gone.", TermsSentences::isGone);
        the.holds("Terms", "UnsupportedOperationException: there would be too many nodes.",
            TermsSentences::tooManyNodes);
        the.holds("Terms", "A call that throws changes nothing.", TermsSentences::throwingChangesNothing);
    }

    // ---- calls, nodes and literals ----

    private static void fiveHundredAndTwelveCalls(Check check) {
        InverterGraphs x = new InverterGraphs();
        x.input();
        x.input();
        for (int k = 2; k < 509; k += 3) {
            x.and(2, 5);
            x.replace(1, 4);
            x.undo();
        }
        check.due("call 510", 6, x.and(5, 2));
        check.due("call 511", 0, x.output(7));
        check.due("call 512", 7, x.outputAt(0));
        InverterGraphs y = new InverterGraphs();
        for (int k = 0; k < 511; k++) {
            Check.outcome(() -> y.input());
        }
        check.unsupported("call 512 for an input", () -> y.input());
    }

    private static void numbersOfNodes(Check check) {
        InverterGraphs x = new InverterGraphs();
        check.due("FALSE", 0, x.node(0, 0));
        check.due("input 1", 2, x.input());
        check.due("latch 2", 4, x.latch(0));
        check.due("and 3", 6, x.and(2, 4));
        check.due("outlets 4 and 5", 8, x.box(0, 2));
        check.due("input 6", 12, x.input());
        int[] sorts = {0, 1, 3, 2, 4, 4, 1};
        for (int node = 0; node < sorts.length; node++) {
            check.due("sort of " + node, sorts[node], x.node(node, 0));
        }
        check.due("and 3 is swept", 1, x.sweep());
        check.due("and 3 is gone", 5, x.node(3, 0));
        x.replace(6, 2);
        check.due("input 6 is gone", 5, x.node(6, 0));
        check.due("numbers go on behind those gone", 14, x.input());
        check.due("and is not 3 again", 16, x.and(2, 4));
    }

    /** Two times the number and one more: the first and the last literal, and those beside them. */
    private static void literals(Check check) {
        InverterGraphs x = Make.inputs(2);
        check.due("the last one", 0, x.output(5));
        check.due("the last one not turned", 1, x.output(4));
        check.due("the first one", 2, x.output(0));
        check.due("each as it was given", 5, x.outputAt(0));
        check.due("each as it was given", 4, x.outputAt(1));
        check.due("both are uses of node 2", 2, x.fan(2));
        int latch = x.latch(0);
        int[] none = {latch + 2, latch + 3, -1, -2, LEAST, LEAST + 1, MOST, MOST - 1};
        for (int literal : none) {
            check.outOfBounds("output " + literal, () -> x.output(literal));
            check.outOfBounds("and " + literal + " 2", () -> x.and(literal, 2));
            check.outOfBounds("and 2 " + literal, () -> x.and(2, literal));
            check.outOfBounds("and " + literal + " twice", () -> x.and(literal, literal));
            check.outOfBounds("next of " + literal, () -> x.next(literal, 2) ? 1 : 0);
            check.outOfBounds("next gets " + literal, () -> x.next(latch, literal) ? 1 : 0);
            check.outOfBounds("nextOf " + literal, () -> x.nextOf(literal));
            check.outOfBounds("replace by " + literal, () -> x.replace(1, literal));
        }
        check.due("the last literal's next", true, x.next(latch + 1, latch + 1));
        check.due("an and of the last literal", latch + 2, x.and(latch + 1, 2));
    }

    private static void oneIsTrue(Check check) {
        InverterGraphs x = Make.inputs(1);
        check.due("true and a", 2, x.and(1, 2));
        check.due("true and true", 1, x.and(1, 1));
        check.due("true and false", 0, x.and(1, 0));
        check.due("an output of true", 0, x.output(1));
        check.due("is FALSE turned", 1, x.fan(0));
        x.replace(1, 1);
        check.due("what was replaced by true", 1, x.node(1, 3));
    }

    private static void lesserFaninFirst(Check check) {
        InverterGraphs x = Make.inputs(4);
        int[][] fanins = {{2, 5}, {5, 3}, {6, 3}, {3, 7}, {8, 10}};
        for (int k = 0; k < fanins.length; k++) {
            int and = x.and(fanins[k][0], fanins[k][1]) / 2;
            check.due("lesser of " + k, Math.min(fanins[k][0], fanins[k][1]), x.node(and, 1));
            check.due("greater of " + k, Math.max(fanins[k][0], fanins[k][1]), x.node(and, 2));
        }
        x.replace(3, 2);
        check.due("6 became 2: with 3 it is 0", 0, x.node(7, 3));
        int swapped = x.and(4, 8) / 2;
        x.replace(2, x.input());
        check.due("after a replacing, too: lesser", 8, x.node(swapped, 1));
        check.due("after a replacing, too: greater", 22, x.node(swapped, 2));
    }

    // ---- at most 400 nodes ----

    private static void fourHundredNodes(Check check) {
        for (int kind = 0; kind < 4; kind++) {
            InverterGraphs x = Make.filled(399);
            check.due("the 400th by kind " + kind, 798, addOne(x, kind));
            check.due("400 are given", 400, x.count(0));
            for (int other = 0; other < 4; other++) {
                int added = other;
                check.unsupported("the 401st by kind " + other, () -> addOne(x, added));
            }
            check.due("still 400", 400, x.count(0));
        }
        InverterGraphs x = Make.filled(380);
        check.due("a box of the last twenty", 760, x.box(0, 20));
        InverterGraphs y = Make.filled(381);
        check.unsupported("a box of twenty for nineteen", () -> y.box(0, 20));
        check.due("nothing of it came", 381, y.count(0));
        check.due("a box of the last nineteen", 762, y.box(0, 19));
        check.unsupported("a box of one for none", () -> y.box(0, 1));
    }

    private static long addOne(InverterGraphs x, int kind) {
        switch (kind) {
            case 0:
                return x.input();
            case 1:
                // The latest literal may be an and's, so that this one is always new.
                return x.and(2 * x.count(0) - 2, 3);
            case 2:
                return x.latch(1);
            default:
                return x.box(0, 1);
        }
    }

    private static void thoseGoneCount(Check check) {
        InverterGraphs x = Make.filled(398);
        int and = x.and(2, 4);
        x.replace(3, 2);
        check.due("one is swept", 1, x.sweep());
        check.due("the 400th", 798, x.input());
        check.due("two of them are gone", 398, x.simulate(1));
        check.unsupported("an input", () -> x.input());
        check.unsupported("a latch", () -> x.latch(0));
        check.unsupported("a box", () -> x.box(0, 1));
        check.unsupported("the and that is gone, again", () -> x.and(2, 4));
        check.due("it stays gone", 5, x.node(and / 2, 0));
        check.due("the latest one is taken back", true, x.undo());
        check.due("and leaves room for one", 798, x.and(2, 4));
    }

    // ---- to make an and ----

    /** Two inputs 2 and 4, an and 6 of them, a latch 8 and an outlet 10: no and of them is needed. */
    private static InverterGraphs forAnds() {
        InverterGraphs x = Make.inputs(2);
        x.and(2, 4);
        x.latch(0);
        x.box(0, 1);
        return x;
    }

    private static void noneIsNew(Check check, InverterGraphs x) {
        check.due("none is new", 6, x.count(0));
        check.due("one and", 1, x.size());
        check.due("none is a change", 5, x.count(4));
    }

    private static void bothTheSame(Check check) {
        InverterGraphs x = forAnds();
        for (int literal = 0; literal < 12; literal++) {
            check.due("both are " + literal, literal, x.and(literal, literal));
        }
        noneIsNew(check, x);
        InverterGraphs y = Make.filled(400);
        check.due("in a full object", 799, y.and(799, 799));
    }

    private static void theOtherOneTurned(Check check) {
        InverterGraphs x = forAnds();
        for (int literal = 0; literal < 12; literal++) {
            check.due(literal + " and turned", 0, x.and(literal, literal ^ 1));
        }
        noneIsNew(check, x);
        InverterGraphs y = Make.filled(400);
        check.due("in a full object", 0, y.and(799, 798));
    }

    private static void oneOfThemFalse(Check check) {
        InverterGraphs x = forAnds();
        for (int literal = 0; literal < 12; literal++) {
            check.due("0 and " + literal, 0, x.and(0, literal));
            check.due(literal + " and 0", 0, x.and(literal, 0));
        }
        noneIsNew(check, x);
        InverterGraphs y = Make.filled(400);
        check.due("in a full object", 0, y.and(0, 799));
    }

    private static void oneOfThemTrue(Check check) {
        InverterGraphs x = forAnds();
        for (int literal = 0; literal < 12; literal++) {
            check.due("1 and " + literal, literal, x.and(1, literal));
            check.due(literal + " and 1", literal, x.and(literal, 1));
        }
        noneIsNew(check, x);
        InverterGraphs y = Make.filled(400);
        check.due("in a full object", 799, y.and(799, 1));
    }

    private static void anAndWithJustThese(Check check) {
        InverterGraphs x = Make.inputs(3);
        check.due("the first", 8, x.and(2, 4));
        check.due("the lesser one turned", 10, x.and(3, 4));
        check.due("the greater one turned", 12, x.and(2, 5));
        check.due("both turned", 14, x.and(3, 5));
        check.due("only one is the same", 16, x.and(2, 6));
        check.due("only the other one is the same", 18, x.and(6, 4));
        int[][] same = {{2, 4, 8}, {4, 2, 8}, {4, 3, 10}, {5, 2, 12}, {5, 3, 14}, {6, 2, 16}, {4, 6, 18}};
        for (int[] it : same) {
            check.due("again " + it[0] + " " + it[1], it[2], x.and(it[0], it[1]));
        }
        check.due("none of these is a change", 9, x.count(4));
        check.due("refused", 1, x.replace(1, 17));
        check.due("what is refused gives no other fanins", 8, x.and(2, 4));
        foundByWhatItHasNow(check);
        InverterGraphs full = Make.filled(399);
        full.and(2, 4);
        check.due("in a full object", 798, full.and(4, 2));
    }

    private static void foundByWhatItHasNow(Check check) {
        InverterGraphs x = Make.inputs(4);
        int and = x.and(2, 4);
        x.replace(1, 6);
        check.due("by the fanins that it got", and, x.and(6, 4));
        check.due("one gone is none, swept", 1, x.sweep());
        int again = x.and(6, 4);
        check.due("so a new one", and + 2, again);
        x.replace(again / 2, 8);
        check.due("one gone is none, replaced", again + 2, x.and(4, 6));
        x.undo();
        check.due("this one's number again", again + 2, x.and(6, 9));
        x.undo();
        x.undo();
        check.due("it is there again", again, x.and(4, 6));
    }

    private static void elseANewOne(Check check) {
        InverterGraphs x = Make.inputs(2);
        check.due("behind the latest node", 6, x.and(2, 4));
        check.due("and the next", 8, x.and(6, 3));
        check.due("of a latch", 12, x.and(x.latch(0), 8));
        check.due("sort", 2, x.node(6, 0));
        check.due("three ands", 3, x.size());
        check.due("six changes", 6, x.count(4));
    }

    // ---- uses ----

    private static void usesByAnds(Check check) {
        InverterGraphs x = Make.inputs(3);
        check.due("none", 0, x.fan(1));
        int ab = x.and(2, 4);
        check.due("one", 1, x.fan(1));
        x.and(5, 3);
        check.due("turned, too", 2, x.fan(1));
        int top = x.and(ab, 6);
        check.due("not those far below", 2, x.fan(1));
        check.due("an and's uses", 1, x.fan(ab / 2));
        x.replace(top / 2, 7);
        check.due("one gone uses none", 0, x.fan(ab / 2));
        check.due("two are swept", 2, x.sweep());
        check.due("swept ones use none", 0, x.fan(1));
        x.undo();
        check.due("taken back", 2, x.fan(1));
    }

    private static void usesByOthers(Check check) {
        InverterGraphs x = Make.inputs(1);
        int latch = x.latch(0);
        check.due("a new latch uses FALSE", 1, x.fan(0));
        x.next(latch, 3);
        check.due("not any more", 0, x.fan(0));
        check.due("but the input", 1, x.fan(1));
        x.output(2);
        check.due("an output", 2, x.fan(1));
        x.output(3);
        check.due("another one", 3, x.fan(1));
        x.box(1, 3);
        check.due("into a box: once, as before", 3, x.fan(1));
        x.box(0, 1);
        check.due("outlets use none", 3, x.fan(1));
        check.due("and are unused", 0, x.fan(3));
        check.due("a box uses no FALSE", 0, x.fan(0));
        x.output(1);
        check.due("true is a use of FALSE", 1, x.fan(0));
        x.next(latch, latch);
        check.due("a latch's own use", 1, x.fan(2));
    }

    private static void eachTime(Check check) {
        InverterGraphs x = Make.inputs(1);
        for (int k = 0; k < 40; k++) {
            x.output(2 + k % 2);
        }
        check.due("forty outputs", 40, x.fan(1));
        x.box(40, 1);
        check.due("forty in a box", 40, x.fan(1));
        x.next(x.latch(0), 2);
        x.next(x.latch(1), 3);
        x.next(x.latch(1), 3);
        check.due("three latches", 43, x.fan(1));
        x.and(2, 4);
        x.and(3, 4);
        check.due("two ands", 45, x.fan(1));
        x.replace(1, 1);
        check.due("all but the ands are FALSE's", 43, x.fan(0));
    }

    // ---- to replace ----

    private static void standsForIt(Check check) {
        InverterGraphs x = Make.inputs(4);
        x.output(2);
        x.output(3);
        int plain = x.and(2, 6) / 2;
        int turned = x.and(3, 8) / 2;
        check.due("a by not b", 0, x.replace(1, 5));
        check.due("it is gone", 5, x.node(1, 0));
        check.due("what stands for it", 5, x.node(1, 3));
        check.due("plain", 5, x.outputAt(0));
        check.due("turned", 4, x.outputAt(1));
        check.due("plain in an and", 5, x.node(plain, 1));
        check.due("turned in an and", 4, x.node(turned, 1));
        check.due("b is used where a was", 4, x.fan(2));
        check.illegalArgument("from now on", () -> x.output(2));
        check.due("b by not c", 0, x.replace(2, 7));
        check.due("c stands for what stood for a", 6, x.outputAt(0));
        check.due("turned", 7, x.outputAt(1));
        check.due("what stood for a then", 5, x.node(1, 3));
        check.due("plain and is of c alone", 6, x.node(plain, 3));
    }

    private static void leastNumberFirst(Check check) {
        InverterGraphs x = Make.inputs(3);
        x.and(2, 4);
        x.and(8, 6);
        x.and(2, 6);
        check.due("a by b", 0, x.replace(1, 4));
        check.due("node 4 is b", 4, x.node(4, 3));
        check.due("node 5, that 4 stood in, goes before 6, that a stood in", 2, x.node(5, 0));
        check.due("so 5 stays and 6 is 5", 10, x.node(6, 3));
        InverterGraphs y = Make.inputs(4);
        y.and(2, 4);
        y.and(6, 8);
        y.and(4, 6);
        y.replace(1, 12);
        check.due("node 5 stands above 6", 12, y.node(5, 2));
        check.due("c by d", 0, y.replace(3, 8));
        check.due("node 6 is d", 8, y.node(6, 3));
        check.due("node 5 goes before 7, as its number is less, though 6 was on", 2, y.node(5, 0));
        check.due("so 7 is 5", 10, y.node(7, 3));
        goneOnesAreLeft(check);
        asLongAsThereIsOne(check);
    }

    private static void asLongAsThereIsOne(Check check) {
        InverterGraphs x = Make.chain();
        check.due("a by true", 0, x.replace(1, 1));
        check.due("397 ands are b and numbers then", 0, x.size());
        check.due("the first", 4, x.node(3, 3));
        check.due("the second", 0, x.node(4, 3));
        check.due("the last", 1, x.node(399, 3));
        x.undo();
        check.due("a by b turned", 0, x.replace(1, 5));
        check.due("the first", 0, x.node(3, 3));
        check.due("none is left", 0, x.size());
    }

    private static void goneOnesAreLeft(Check check) {
        InverterGraphs x = Make.inputs(3);
        int swept = x.and(2, 4) / 2;
        x.sweep();
        x.replace(1, 6);
        check.due("a swept and has no fanins to get", -1, x.node(swept, 1));
        check.due("and nothing stands for it", -1, x.node(swept, 3));
    }

    private static void asOftenAsReplacedAgain(Check check) {
        InverterGraphs x = Make.inputs(5);
        int high = x.and(4, 6);
        int top = x.and(6, 8);
        int last = x.and(high, 10);
        x.output(high);
        x.output(high + 1);
        x.replace(2, top + 1);
        check.due("high has what stands for b", top + 1, x.node(high / 2, 2));
        check.due("c by true", 0, x.replace(3, 1));
        check.due("not top stood for high", top + 1, x.node(high / 2, 3));
        check.due("and d for top then", 8, x.node(top / 2, 3));
        check.due("last has not d: lesser", 9, x.node(last / 2, 1));
        check.due("last has not d: greater", 10, x.node(last / 2, 2));
        check.due("output of high", 9, x.outputAt(0));
        check.due("output of high, turned", 8, x.outputAt(1));
        ninetyNineTimes(check);
    }

    private static void ninetyNineTimes(Check check) {
        InverterGraphs x = Make.upsideDown();
        x.output(204);
        x.output(207);
        x.next(x.latch(0), 402);
        check.due("true for what all ands have", 0, x.replace(1, 1));
        check.due("each stood for the one above it then", 207, x.node(102, 3));
        check.due("the last one was an input", 202, x.node(201, 3));
        check.due("what stands for the first one", 203, x.outputAt(0));
        check.due("what stands for the second one, turned", 203, x.outputAt(1));
        check.due("what stands for the last one", 202, x.nextOf(404));
    }

    private static void newOnesStay(Check check) {
        InverterGraphs x = Make.inputs(4);
        int and = x.and(2, 4) / 2;
        x.output(2 * and);
        x.replace(1, 6);
        check.due("new fanins, still an and", 2, x.node(and, 0));
        check.due("nothing stands for it", -1, x.node(and, 3));
        check.due("lesser", 4, x.node(and, 1));
        check.due("greater", 6, x.node(and, 2));
        x.replace(2, 9);
        check.due("again", 2, x.node(and, 0));
        check.due("lesser", 6, x.node(and, 1));
        check.due("greater", 9, x.node(and, 2));
        check.due("one and", 1, x.size());
        check.due("its output stays", 2 * and, x.outputAt(0));
        check.due("it is itself", 2 * and, x.and(9, 6));
    }

    /** And (2, 4) with a replaced: b, 0 or what is like it, by what the and would be. */
    private static void whatThatWouldBe(Check check) {
        int[][] cases = {{4, 4}, {5, 0}, {0, 0}, {1, 4}, {6, 12}, {7, 14}};
        for (int[] it : cases) {
            InverterGraphs x = Make.inputs(4);
            int and = x.and(2, 4);
            x.and(4, 6);
            x.and(4, 7);
            x.output(and);
            x.output(and + 1);
            x.replace(1, it[0]);
            check.due("gone by " + it[0], 5, x.node(and / 2, 0));
            check.due("by " + it[0] + " it is", it[1], x.node(and / 2, 3));
            check.due("its output by " + it[0], it[1], x.outputAt(0));
            check.due("its output turned by " + it[0], it[1] ^ 1, x.outputAt(1));
            check.due("the other two stay", 2, x.size());
        }
        InverterGraphs x = Make.inputs(3);
        int low = x.and(2, 4);
        int high = x.and(low, 6);
        x.replace(1, 0);
        check.due("those above are replaced, too", 0, x.node(high / 2, 3));
        check.due("one change for all", 6, x.count(4));
    }

    private static void usersInTheEnd(Check check) {
        InverterGraphs x = Make.inputs(3);
        int and = x.and(2, 4);
        int latch = x.latch(0);
        x.next(latch, and + 1);
        x.output(and);
        x.output(and + 1);
        x.box(1, 1);
        x.output(3);
        check.due("a by b", 0, x.replace(1, 4));
        check.due("an output of the and", 4, x.outputAt(0));
        check.due("one in a box is none", -1, x.outputAt(1));
        check.due("an output of a", 5, x.outputAt(2));
        check.due("a latch", 5, x.nextOf(latch));
        check.due("and a box, too", 4, x.fan(2));
        check.due("b by the latch", 0, x.replace(2, latch));
        check.due("a latch gets itself", latch + 1, x.nextOf(latch));
        check.due("all are the latch's", 4, x.fan(latch / 2));
        check.due("that is taken back", true, x.undo());
        int made = x.and(4, 6);
        x.replace(2, 6);
        check.due("the and is c", 6, x.node(made / 2, 3));
        check.due("all are c's", 4, x.fan(3));
    }

    // ---- refused ----

    private static void byItself(Check check) {
        InverterGraphs x = Make.inputs(2);
        int and = x.and(2, 4);
        check.due("an input", 1, x.replace(1, 2));
        check.due("an input, turned", 1, x.replace(1, 3));
        check.due("an and", 1, x.replace(and / 2, and));
        check.due("an and, turned", 1, x.replace(and / 2, and + 1));
        check.due("nothing is gone", 4, x.simulate(1));
        check.due("no change", 3, x.count(4));
        check.due("beside it, below", 0, x.replace(and / 2, 2));
        check.due("beside it", 0, x.replace(2, 2));
    }

    private static void byOneAbove(Check check) {
        InverterGraphs x = Make.inputs(4);
        int low = x.and(2, 4);
        int mid = x.and(7, low + 1);
        int high = x.and(mid, 8);
        int[][] refused = {{1, low}, {2, low + 1}, {1, mid}, {3, mid}, {1, high}, {2, high + 1}, {4, high},
            {low / 2, mid}, {low / 2, high}, {mid / 2, high + 1}};
        for (int[] it : refused) {
            check.due("refused: " + it[0] + " by " + it[1], 1, x.replace(it[0], it[1]));
        }
        check.due("all stand", 8, x.simulate(1));
        check.due("far below", 1, Make.chain().replace(1, 798));
        check.due("far below, of a greater number", 1, Make.upsideDown().replace(101, 205));
        int[][] taken = {{1, 4}, {4, low}, {3, low}, {high / 2, 2}, {mid / 2, low}, {4, mid}, {low / 2, 8}};
        for (int[] it : taken) {
            check.due("taken: " + it[0] + " by " + it[1], 0, x.replace(it[0], it[1]));
            x.undo();
        }
        afterReplacing(check);
    }

    private static void afterReplacing(Check check) {
        InverterGraphs x = Make.inputs(4);
        int first = x.and(2, 4);
        int second = x.and(6, 8);
        x.replace(1, second);
        check.due("a lesser number above a greater", 1, x.replace(second / 2, first));
        check.due("and above what that stands above", 1, x.replace(3, first + 1));
        x.replace(second / 2, 8);
        check.due("above d now", 1, x.replace(4, first));
        check.due("but not above c any more", 0, x.replace(3, first));
    }

    private static void aboveNone(Check check) {
        InverterGraphs x = Make.inputs(2);
        int and = x.and(2, 4);
        int latch = x.latch(0);
        x.next(latch, and);
        x.output(and);
        int outlet = x.box(1, 1);
        check.due("a by the latch that gets an and above it", 0, x.replace(1, latch));
        check.due("the and has the latch", latch, x.node(and / 2, 2));
        check.due("b by the outlet of the box that it went into", 0, x.replace(2, outlet + 1));
        check.due("the and has the outlet", outlet + 1, x.node(and / 2, 2));
        check.due("the and by a latch that gets it", 0, x.replace(and / 2, latch + 1));
        check.due("which gets itself then", latch + 1, x.nextOf(latch));
    }

    // ---- levels ----

    private static void levelZero(Check check) {
        InverterGraphs x = Make.inputs(2);
        int and = x.and(2, 4);
        int latch = x.latch(1);
        x.next(latch, and);
        x.output(and);
        int outlet = x.box(1, 2);
        int[] nodes = {0, 1, 2, latch / 2, outlet / 2, outlet / 2 + 1};
        for (int node : nodes) {
            check.due("level of " + node, 0, x.level(node));
        }
        check.due("of the and", 1, x.level(and / 2));
    }

    private static void levelOfAnds(Check check) {
        InverterGraphs x = Make.inputs(2);
        int chain = x.and(2, 4);
        for (int level = 1; level <= 60; level++) {
            check.due("in a chain", level, x.level(chain / 2));
            chain = x.and(chain + 1, 2 + level % 2 * 2);
        }
        int side = x.and(2, 5);
        check.due("the lesser fanin's is the greater one", 62, x.level(x.and(chain, side) / 2));
        check.due("the greater fanin's is the greater one", 2, x.level(x.and(4, side) / 2));
        InverterGraphs y = Make.inputs(4);
        int first = y.and(2, 4);
        int second = y.and(first, 6);
        int third = y.and(6, 8);
        y.replace(1, third);
        check.due("of lesser numbers above greater ones", 2, y.level(first / 2));
        check.due("and above these", 3, y.level(second / 2));
        y.replace(third / 2, 8);
        check.due("one less", 2, y.level(second / 2));
        InverterGraphs z = Make.upsideDown();
        check.due("the lowest of a hundred", 1, z.level(201));
        check.due("the middle one", 50, z.level(152));
        check.due("the highest", 100, z.level(102));
    }

    // ---- rows ----

    private static void rowOfFalse(Check check) {
        InverterGraphs x = new InverterGraphs();
        long[] seeds = {0, 1, -1, Long.MIN_VALUE, Long.MAX_VALUE};
        for (long seed : seeds) {
            x.simulate(seed);
            check.due("alone", 0, x.row(0));
        }
        x.input();
        x.simulate(-1);
        check.due("beside others", 0, x.row(0));
    }

    /** The numbers of the row that is known as SplitMix64, of seeds 0 and 1234567. */
    private static final long[] FROM_0 = {
        0xE220A8397B1DCDAFL, 0x6E789E6AA1B965F4L, 0x06C45D188009454FL, 0xF88BB8A8724C81ECL, 0x1B39896A51A8749BL,
    };
    private static final long[] FROM_1234567 = {
        6457827717110365317L, 3203168211198807973L, -8629252141511181193L, 4593380528125082431L, -2037821214251327795L,
    };

    private static void kthSource(Check check) {
        InverterGraphs x = Make.inputs(1);
        int latch = x.latch(0) / 2;
        int and = x.and(2, 4) / 2;
        int gone = x.input() / 2;
        int outlet = x.box(0, 2) / 2;
        int input = x.input() / 2;
        x.simulate(0);
        int[] firstFive = {1, latch, gone, outlet, outlet + 1};
        for (int k = 0; k < firstFive.length; k++) {
            check.due("source " + k, FROM_0[k], x.row(firstFive[k]));
        }
        x.replace(gone, 2 * input + 1);
        x.simulate(0);
        int[] notGone = {1, latch, outlet, outlet + 1, input};
        for (int k = 0; k < notGone.length; k++) {
            check.due("source " + k + " of those not gone", FROM_0[k], x.row(notGone[k]));
        }
        check.due("an and is none of them", FROM_0[0] & FROM_0[1], x.row(and));
    }

    private static void mixes(Check check) {
        InverterGraphs x = Make.inputs(5);
        x.simulate(0);
        for (int k = 0; k < 5; k++) {
            check.due("seed 0, k " + k, FROM_0[k], x.row(k + 1));
        }
        x.simulate(1234567);
        for (int k = 0; k < 5; k++) {
            check.due("seed 1234567, k " + k, FROM_1234567[k], x.row(k + 1));
        }
    }

    private static BigInteger wrapped(BigInteger z) {
        return z.mod(BigInteger.ONE.shiftLeft(64));
    }

    /** The sentence once more in numbers that don't wrap by themselves and have no sign bit. */
    private static long mixOf(long seed, int k) {
        BigInteger z = BigInteger.valueOf(k + 1).multiply(new BigInteger("9E3779B97F4A7C15", 16));
        z = wrapped(z.add(BigInteger.valueOf(seed)));
        z = wrapped(z.xor(z.shiftRight(30)).multiply(new BigInteger("BF58476D1CE4E5B9", 16)));
        z = wrapped(z.xor(z.shiftRight(27)).multiply(new BigInteger("94D049BB133111EB", 16)));
        return z.xor(z.shiftRight(31)).longValue();
    }

    private static void mixesWrap(Check check) {
        InverterGraphs x = Make.filled(400);
        long[] seeds = {Long.MAX_VALUE, Long.MIN_VALUE, -1, 1, -0x61C8864680B583EBL, 0x61C8864680B583EBL, 1L << 62};
        int[] sources = {0, 1, 2, 3, 4, 7, 100, 250, 397, 398};
        for (long seed : seeds) {
            x.simulate(seed);
            for (int k : sources) {
                check.due("seed " + seed + ", k " + k, mixOf(seed, k), x.row(k + 1));
            }
        }
    }

    private static void rowsOfAnds(Check check) {
        InverterGraphs x = Make.inputs(3);
        int[] ands = {x.and(2, 4), x.and(2, 5), x.and(3, 4), x.and(3, 5)};
        int high = x.and(ands[3] + 1, 6);
        x.simulate(0);
        long a = FROM_0[0];
        long b = FROM_0[1];
        long[] due = {a & b, a & ~b, ~a & b, ~a & ~b};
        for (int k = 0; k < due.length; k++) {
            check.due("and " + k, due[k], x.row(ands[k] / 2));
        }
        check.due("an and's row turned", (a | b) & FROM_0[2], x.row(high / 2));
        x.replace(1, x.and(4, 6));
        x.simulate(0);
        long bc = FROM_0[0] & FROM_0[1];
        check.due("above one of a greater number", bc, x.row(ands[0] / 2));
        check.due("above it turned", ~bc & FROM_0[0], x.row(ands[2] / 2));
        x.simulate(1234567);
        bc = FROM_1234567[0] & FROM_1234567[1];
        check.due("and with another seed", ~bc & FROM_1234567[0], x.row(ands[2] / 2));
        InverterGraphs y = Make.upsideDown();
        y.simulate(0);
        check.due("the lowest of a hundred", FROM_0[0] & FROM_0[1], y.row(201));
        check.due("the next", FROM_0[0] & ~FROM_0[1], y.row(200));
        check.due("the highest", FROM_0[0] & ~FROM_0[1], y.row(102));
    }

    // ---- changes ----

    private interface Doing {
        long with(InverterGraphs x);
    }

    /** Each is a change behind those before it, and all kinds of changes are there. */
    private static final Doing[] CHANGES = {
        x -> x.input(), x -> x.latch(0), x -> x.and(2, 4), x -> x.output(2), x -> x.next(4, 7) ? 1 : 0,
        x -> x.box(1, 1), x -> x.box(0, 1), x -> x.input(), x -> x.replace(6, 5), x -> x.next(4, 0) ? 1 : 0,
        x -> x.sweep(),
    };

    private static void changes(Check check) {
        check.due("a new object has none", 0, new InverterGraphs().count(4));
        for (int many = 0; many < CHANGES.length; many++) {
            InverterGraphs x = new InverterGraphs();
            for (int k = 0; k < many; k++) {
                CHANGES[k].with(x);
            }
            String before = Seen.of(x);
            Doing change = CHANGES[many];
            check.due("change " + many + " answers", false, Check.outcome(() -> change.with(x)).startsWith("throws"));
            check.due("it is one change", many + 1, x.count(4));
            check.due("it can be taken back", true, x.undo());
            check.due("all is as before it", before, Seen.of(x));
        }
    }

    private static void thatChangedSomething(Check check) {
        InverterGraphs x = Make.ofAllSorts();
        check.due("changes until now", 13, x.count(4));
        x.sweep();
        check.due("sweep took one", 14, x.count(4));
        x.simulate(3);
        Check.Call[] calls = {
            () -> x.and(2, 2), () -> x.and(2, 3), () -> x.and(0, 2), () -> x.and(1, 2), () -> x.and(4, 2),
            () -> x.next(14, 9) ? 1 : 0, () -> x.next(15, 9) ? 1 : 0, () -> x.replace(1, 3), () -> x.replace(1, 10),
            () -> x.sweep(), () -> x.outputAt(0), () -> x.nextOf(14), () -> x.simulate(4), () -> x.row(1),
            () -> x.level(5), () -> x.fan(1), () -> x.node(5, 1), () -> x.size(), () -> x.count(4),
        };
        for (int k = 0; k < calls.length; k++) {
            check.due("call " + k + " answers", false, Check.outcome(calls[k]).startsWith("throws"));
            check.due("call " + k + " is no change", 14, x.count(4));
        }
        check.due("rows are still there", mixOf(4, 0), x.row(1));
        x.undo();
        check.due("taken back was the sweep", 2, x.node(6, 0));
    }

    private static void thirtyCanBeTakenBack(Check check) {
        int[] many = {29, 30, 31, 61};
        for (int changes : many) {
            InverterGraphs x = Make.inputs(changes);
            int kept = Math.min(changes, 30);
            check.due("kept of " + changes, kept, x.count(4));
            for (int k = 0; k < kept; k++) {
                check.due("undo " + k + " of " + changes, true, x.undo());
            }
            check.due("no more of " + changes, false, x.undo());
            check.due("what stays of " + changes, 1 + changes - kept, x.count(0));
            check.due("none kept", 0, x.count(4));
        }
        InverterGraphs x = Make.inputs(40);
        for (int k = 0; k < 30; k++) {
            x.undo();
        }
        x.latch(0);
        check.due("one, for those before the thirty don't come back", 1, x.count(4));
        check.due("it is taken back", true, x.undo());
        check.due("and no more", false, x.undo());
        check.due("ten inputs", 11, x.count(0));
    }

    private static void latestFirst(Check check) {
        InverterGraphs x = Make.inputs(1);
        int latch = x.latch(0);
        for (int k = 0; k < 38; k++) {
            x.next(latch, 2 + k % 3);
            x.output(k % 4);
        }
        for (int k = 37; k > 22; k--) {
            check.due("the latest output", k % 4, x.outputAt(k));
            x.undo();
            check.due("one output less", k, x.count(2));
            check.due("next is as before", 2 + k % 3, x.nextOf(latch));
            x.undo();
            check.due("the next before", 2 + (k - 1) % 3, x.nextOf(latch));
        }
        check.due("no more", false, x.undo());
        x.output(3);
        x.next(latch, 5);
        check.due("the new ones are taken back", true, x.undo());
        check.due("the newest one first", 2 + 22 % 3, x.nextOf(latch));
        check.due("the output is still there", 24, x.count(2));
    }

    // ---- what is thrown ----

    private static void theOneNamedFirst(Check check) {
        InverterGraphs x = Make.filled(399);
        x.replace(2, 2);
        x.latch(0);
        for (int k = 0; k < 40; k++) {
            x.output(2);
        }
        check.outOfBounds("and: never, gone", () -> x.and(800, 4));
        check.outOfBounds("and: gone, never", () -> x.and(4, 800));
        check.outOfBounds("and: never, too many", () -> x.and(-1, 2));
        check.outOfBounds("and: gone, never, too many", () -> x.and(5, MOST));
        check.illegalArgument("and: gone, too many", () -> x.and(4, 2));
        check.illegalArgument("and: too many, gone", () -> x.and(2, 5));
        check.outOfBounds("output: never, too many", () -> x.output(800));
        check.illegalArgument("output: gone, too many", () -> x.output(4));
        check.illegalArgument("latch: neither, too many", () -> x.latch(2));
        check.outOfBounds("next: no latch, never", () -> x.next(2, 800) ? 1 : 0);
        check.outOfBounds("next: never, gone", () -> x.next(800, 4) ? 1 : 0);
        check.outOfBounds("next: gone, never", () -> x.next(4, -1) ? 1 : 0);
        check.outOfBounds("next: both never", () -> x.next(-1, 800) ? 1 : 0);
        check.illegalArgument("box: below 0, too many", () -> x.box(-1, 20));
        check.illegalArgument("box: not so many, too many", () -> x.box(41, 20));
        check.illegalArgument("box: no outlets, too many", () -> x.box(0, 0));
        check.illegalArgument("box: 21 outlets, too many", () -> x.box(40, 21));
        check.outOfBounds("replace: never, gone", () -> x.replace(400, 4));
        check.outOfBounds("replace: gone, never", () -> x.replace(2, 800));
        check.outOfBounds("replace: FALSE, never", () -> x.replace(0, -1));
        check.outOfBounds("replace: a latch, never", () -> x.replace(399, 800));
        check.illegalArgument("replace: refused, but it is neither", () -> x.replace(399, 798));
        check.illegalArgument("replace: refused, but it is gone", () -> x.replace(2, 4));
        check.outOfBounds("row: never, none was", () -> x.row(400));
        check.illegalState("row: none was, gone", () -> x.row(2));
        check.outOfBounds("node: never, none of these", () -> x.node(400, 4));
        check.outOfBounds("node: never, none of these", () -> x.node(-1, -1));
    }

    private static void neverWas(Check check) {
        InverterGraphs x = Make.inputs(2);
        x.output(2);
        x.simulate(1);
        int[] nodes = {3, 400, -1, LEAST, MOST};
        for (int node : nodes) {
            check.outOfBounds("replace " + node, () -> x.replace(node, 0));
            check.outOfBounds("row " + node, () -> x.row(node));
            check.outOfBounds("level " + node, () -> x.level(node));
            check.outOfBounds("fan " + node, () -> x.fan(node));
            check.outOfBounds("node " + node, () -> x.node(node, 0));
        }
        int[] outputs = {1, 40, -1, LEAST, MOST};
        for (int output : outputs) {
            check.outOfBounds("outputAt " + output, () -> x.outputAt(output));
        }
        check.due("the last one: row", mixOf(1, 1), x.row(2));
        check.due("the last one: level", 0, x.level(2));
        check.due("the last one: fan", 0, x.fan(2));
        check.due("the last one: node", 1, x.node(2, 0));
        check.due("the last one: outputAt", 2, x.outputAt(0));
        check.due("the last one: replace", 0, x.replace(2, 0));
        check.due("one gone was there", 5, x.node(2, 0));
        x.undo();
        x.undo();
        check.outOfBounds("an output that was taken back", () -> x.outputAt(0));
        x.undo();
        check.outOfBounds("a node that was taken back", () -> x.node(2, 0));
        check.outOfBounds("its literal", () -> x.output(4));
    }

    private static void isGone(Check check) {
        InverterGraphs x = Make.inputs(3);
        int swept = x.and(2, 4);
        int latch = x.latch(0);
        x.sweep();
        x.replace(3, 2);
        x.simulate(1);
        int[] gone = {swept, 6};
        for (int literal : gone) {
            check.illegalArgument("and", () -> x.and(literal, 2));
            check.illegalArgument("and", () -> x.and(2, literal + 1));
            check.illegalArgument("and with 0", () -> x.and(0, literal));
            check.illegalArgument("and with itself", () -> x.and(literal, literal));
            check.illegalArgument("output", () -> x.output(literal));
            check.illegalArgument("output, turned", () -> x.output(literal + 1));
            check.illegalArgument("next gets", () -> x.next(latch, literal) ? 1 : 0);
            check.illegalArgument("next of", () -> x.next(literal, 2) ? 1 : 0);
            check.illegalArgument("nextOf", () -> x.nextOf(literal));
            check.illegalArgument("replace", () -> x.replace(literal / 2, 2));
            check.illegalArgument("replace by", () -> x.replace(1, literal + 1));
            check.illegalArgument("row", () -> x.row(literal / 2));
            check.illegalArgument("level", () -> x.level(literal / 2));
            check.illegalArgument("fan", () -> x.fan(literal / 2));
            check.due("node tells it", 5, x.node(literal / 2, 0));
        }
        x.undo();
        check.due("back again", 0, x.output(6));
    }

    private static void tooManyNodes(Check check) {
        InverterGraphs x = Make.filled(398);
        int and = x.and(2, 4);
        x.output(and);
        check.unsupported("two for one", () -> x.box(1, 2));
        check.due("one for one", 798, x.box(1, 1));
        check.unsupported("an and that would be new", () -> x.and(2, 5));
        check.unsupported("an input", () -> x.input());
        check.unsupported("a latch", () -> x.latch(1));
        check.due("no and is too many if it is not new", and, x.and(4, 2));
        check.due("an output is no node", 1, x.output(799));
        check.due("replacing makes none", 0, x.replace(and / 2, 7));
        check.due("rows are worked out", 399, x.simulate(1));
        check.due("sweep makes none", 0, x.sweep());
    }

    private static void throwingChangesNothing(Check check) {
        InverterGraphs x = Make.ofAllSorts();
        x.simulate(8);
        String before = Seen.of(x);
        Check.Call[] calls = {
            () -> x.and(2, 22), () -> x.and(20, 2), () -> x.output(-1), () -> x.output(21), () -> x.outputAt(2),
            () -> x.latch(2), () -> x.latch(-1), () -> x.next(14, 22) ? 1 : 0, () -> x.next(14, 20) ? 1 : 0,
            () -> x.next(2, 4) ? 1 : 0, () -> x.nextOf(2), () -> x.box(-1, 1), () -> x.box(1, 1), () -> x.box(0, 0),
            () -> x.box(0, 21), () -> x.replace(11, 0), () -> x.replace(1, 22), () -> x.replace(1, 20),
            () -> x.replace(10, 2), () -> x.replace(7, 2), () -> x.replace(0, 2), () -> x.row(11), () -> x.row(10),
            () -> x.level(11), () -> x.level(10), () -> x.fan(-1), () -> x.fan(10), () -> x.node(11, 0),
            () -> x.node(1, 4), () -> x.count(6), () -> x.count(-1),
        };
        for (int k = 0; k < calls.length; k++) {
            check.due("call " + k + " throws", true, Check.outcome(calls[k]).startsWith("throws."));
        }
        check.due("all is as it was", before, Seen.of(x));
        check.due("the next number", 22, x.input());
        check.due("the next output", 2, x.output(2));
        check.illegalArgument("so many can go into a box", () -> x.box(2, 1));
        check.due("and so many", 24, x.box(1, 1));
        fullAndThrowing(check);
    }

    private static void fullAndThrowing(Check check) {
        InverterGraphs x = Make.filled(400);
        for (int k = 0; k < 40; k++) {
            x.output(2 + k % 2);
        }
        x.simulate(8);
        Check.Call[] calls = {
            () -> x.input(), () -> x.and(2, 4), () -> x.latch(0), () -> x.box(0, 1), () -> x.box(40, 20),
            () -> x.output(2), () -> x.box(41, 1),
        };
        for (int k = 0; k < calls.length; k++) {
            check.due("full: call " + k + " throws", true, Check.outcome(calls[k]).startsWith("throws."));
            check.due("full: nodes after " + k, 400, x.count(0));
            check.due("full: ands after " + k, 0, x.size());
            check.due("full: outputs after " + k, 40, x.count(2));
            check.due("full: rows after " + k, mixOf(8, 398), x.row(399));
            check.due("full: uses after " + k, 40, x.fan(1));
            check.due("full: the latest output after " + k, 3, x.outputAt(39));
        }
        check.due("full: changes", 30, x.count(4));
        x.undo();
        check.due("full: taken back is the latest output", 39, x.count(2));
    }
}
