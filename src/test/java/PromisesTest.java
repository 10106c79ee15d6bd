/** For each promise of the document: ordinary inputs, the edges that it names, and wrong inputs. */
public final class PromisesTest {
    private static final int LEAST = Integer.MIN_VALUE;
    private static final int MOST = Integer.MAX_VALUE;
    private static final Check check = new Check();

    public static void main(String[] args) {
        newObject();
        input();
        and();
        andIsFoundAgain();
        output();
        outputAt();
        latch();
        next();
        nextOf();
        box();
        boxTakesTheLatest();
        replace();
        replaceIsRefused();
        replaceSpreads();
        replaceGoesOnToLesserNumbers();
        replaceReachesUsers();
        sweep();
        undo();
        undoBringsAllBack();
        undoKeepsThirty();
        simulate();
        row();
        rowsLast();
        level();
        fan();
        node();
        size();
        count();
        callsThatThrowChangeNothing();
        check.end();
    }

    private static InverterGraphs withInputs(int many) {
        InverterGraphs x = new InverterGraphs();
        for (int k = 0; k < many; k++) {
            x.input();
        }
        return x;
    }

    /** Boxes fill it up to so many nodes, at least 20 of them outlets. */
    private static InverterGraphs withNodes(int many) {
        InverterGraphs x = new InverterGraphs();
        while (many - x.count(0) >= 20) {
            x.box(0, 20);
        }
        while (x.count(0) < many) {
            x.input();
        }
        return x;
    }

    private static void newObject() {
        InverterGraphs x = new InverterGraphs();
        check.due("NONE", -1, InverterGraphs.NONE);
        for (int what = 0; what <= 5; what++) {
            check.due("new: count(" + what + ")", what == 0 ? 1 : 0, x.count(what));
        }
        check.due("new: size", 0, x.size());
        check.due("new: node(0, 0)", 0, x.node(0, 0));
        check.due("new: node(0, 1)", -1, x.node(0, 1));
        check.due("new: node(0, 2)", -1, x.node(0, 2));
        check.due("new: node(0, 3)", -1, x.node(0, 3));
        check.due("new: level(0)", 0, x.level(0));
        check.due("new: fan(0)", 0, x.fan(0));
        check.due("new: sweep", 0, x.sweep());
        check.due("new: undo", false, x.undo());
        check.due("new: and(0, 1)", 0, x.and(0, 1));
        check.outOfBounds("new: and(2, 2)", () -> x.and(2, 2));
        check.outOfBounds("new: outputAt(0)", () -> x.outputAt(0));
        check.illegalState("new: row(0)", () -> x.row(0));
        check.due("new: simulate", 1, x.simulate(5));
        check.due("new: row(0) then", 0, x.row(0));
        check.due("new: undo after simulate", false, x.undo());
        check.due("new: nothing was taken back, so rows stay", 0, x.row(0));
    }

    private static void input() {
        InverterGraphs x = new InverterGraphs();
        check.due("the first input", 2, x.input());
        check.due("the second input", 4, x.input());
        check.due("its sort", 1, x.node(2, 0));
        check.due("its fanins", -1, x.node(2, 1));
        check.due("inputs", 2, x.count(1));
        InverterGraphs full = withNodes(399);
        check.due("the last input", 798, full.input());
        check.unsupported("an input too many", () -> full.input());
        check.due("still 400", 400, full.count(0));
        full.undo();
        check.due("a number again, after undo", 798, full.input());
    }

    private static void and() {
        InverterGraphs x = withInputs(3);
        check.due("and(2, 2)", 2, x.and(2, 2));
        check.due("and(3, 3)", 3, x.and(3, 3));
        check.due("and(2, 3)", 0, x.and(2, 3));
        check.due("and(3, 2)", 0, x.and(3, 2));
        check.due("and(0, 4)", 0, x.and(0, 4));
        check.due("and(5, 0)", 0, x.and(5, 0));
        check.due("and(1, 4)", 4, x.and(1, 4));
        check.due("and(5, 1)", 5, x.and(5, 1));
        check.due("and(0, 0)", 0, x.and(0, 0));
        check.due("and(1, 1)", 1, x.and(1, 1));
        check.due("and(1, 0)", 0, x.and(1, 0));
        check.due("none is new", 4, x.count(0));
        check.due("and none is a change", 3, x.count(4));
        check.due("and(6, 3)", 8, x.and(6, 3));
        check.due("its sort", 2, x.node(4, 0));
        check.due("its lesser fanin", 3, x.node(4, 1));
        check.due("its greater fanin", 6, x.node(4, 2));
        check.outOfBounds("and(10, 2)", () -> x.and(10, 2));
        check.outOfBounds("and(2, 10)", () -> x.and(2, 10));
        check.outOfBounds("and(-1, 2)", () -> x.and(-1, 2));
        check.outOfBounds("and(2, least)", () -> x.and(2, LEAST));
        check.outOfBounds("and(most, 0)", () -> x.and(MOST, 0));
        check.due("and(9, 0)", 0, x.and(9, 0));
        x.replace(1, 4);
        check.illegalArgument("and(2, 4), 2 is gone", () -> x.and(2, 4));
        check.illegalArgument("and(0, 3), 3 is gone", () -> x.and(0, 3));
        check.illegalArgument("and(3, 3), 3 is gone", () -> x.and(3, 3));
        check.outOfBounds("and(2, 10), 2 is gone", () -> x.and(2, 10));
        check.outOfBounds("and(10, 2), 2 is gone", () -> x.and(10, 2));
    }

    private static void andIsFoundAgain() {
        InverterGraphs x = withNodes(397);
        int a = x.input();
        int b = x.input();
        int c = x.and(a, b);
        check.due("the 400th node", 798, c);
        check.due("the same one", c, x.and(b, a));
        check.due("that of a constant", a, x.and(1, a));
        check.due("another one turned", 0, x.and(a, a ^ 1));
        check.unsupported("one too many", () -> x.and(a, b ^ 1));
        check.unsupported("one too many", () -> x.and(c, a));
        InverterGraphs y = withInputs(2);
        y.and(2, 4);
        y.sweep();
        check.due("one that is gone is not found", 8, y.and(2, 4));
    }

    private static void output() {
        InverterGraphs x = withInputs(2);
        check.due("output(2)", 0, x.output(2));
        check.due("output(2) again", 1, x.output(2));
        check.due("output(0)", 2, x.output(0));
        check.due("output(1)", 3, x.output(1));
        check.outOfBounds("output(6)", () -> x.output(6));
        check.outOfBounds("output(7)", () -> x.output(7));
        check.outOfBounds("output(-1)", () -> x.output(-1));
        check.outOfBounds("output(least)", () -> x.output(LEAST));
        x.replace(2, 1);
        check.illegalArgument("output(5)", () -> x.output(5));
        x.box(4, 1);
        for (int k = 4; k < 40; k++) {
            check.due("output " + k, k, x.output(3));
        }
        check.unsupported("output 40", () -> x.output(3));
        check.illegalArgument("output 40 of one gone", () -> x.output(4));
        check.outOfBounds("output 40 of none", () -> x.output(8));
        check.due("outputs", 40, x.count(2));
        x.undo();
        check.due("output 39 again", 39, x.output(0));
    }

    private static void outputAt() {
        InverterGraphs x = withInputs(2);
        x.output(3);
        x.output(4);
        x.output(5);
        check.due("outputAt(0)", 3, x.outputAt(0));
        check.due("outputAt(2)", 5, x.outputAt(2));
        check.outOfBounds("outputAt(3)", () -> x.outputAt(3));
        check.outOfBounds("outputAt(-1)", () -> x.outputAt(-1));
        check.outOfBounds("outputAt(least)", () -> x.outputAt(LEAST));
        check.outOfBounds("outputAt(most)", () -> x.outputAt(MOST));
        x.box(2, 1);
        check.due("outputAt(0) stays", 3, x.outputAt(0));
        check.due("outputAt(1) went into a box", -1, x.outputAt(1));
        check.due("outputAt(2) went into a box", -1, x.outputAt(2));
        x.undo();
        check.due("outputAt(1) is back", 4, x.outputAt(1));
        x.undo();
        check.outOfBounds("outputAt(2) was taken back", () -> x.outputAt(2));
    }

    private static void latch() {
        InverterGraphs x = new InverterGraphs();
        check.due("latch(0)", 2, x.latch(0));
        check.due("latch(1)", 4, x.latch(1));
        check.due("it gets 0 next", 0, x.nextOf(2));
        check.due("it gets 0 next", 0, x.nextOf(4));
        check.due("its sort", 3, x.node(1, 0));
        check.illegalArgument("latch(2)", () -> x.latch(2));
        check.illegalArgument("latch(-1)", () -> x.latch(-1));
        check.illegalArgument("latch(most)", () -> x.latch(MOST));
        check.due("latches", 2, x.count(3));
        check.due("changes", 2, x.count(4));
        InverterGraphs full = withNodes(399);
        check.due("the last latch", 798, full.latch(1));
        check.unsupported("a latch too many", () -> full.latch(0));
        check.illegalArgument("a latch too many, of no start", () -> full.latch(2));
    }

    private static void next() {
        InverterGraphs x = withInputs(2);
        int latch = x.latch(0);
        check.due("next 0, as it was", false, x.next(latch, 0));
        check.due("next 1", true, x.next(latch, 1));
        check.due("next 1 again", false, x.next(latch + 1, 1));
        check.due("next 5, named turned", true, x.next(latch + 1, 5));
        check.due("not turned by its name", 5, x.nextOf(latch));
        check.due("next itself", true, x.next(latch, latch));
        check.due("changes", 6, x.count(4));
        check.outOfBounds("next(8, 0)", () -> x.next(8, 0) ? 1 : 0);
        check.outOfBounds("next(6, 8)", () -> x.next(6, 8) ? 1 : 0);
        check.outOfBounds("next(-1, 0)", () -> x.next(-1, 0) ? 1 : 0);
        check.outOfBounds("next(6, -2)", () -> x.next(6, -2) ? 1 : 0);
        check.outOfBounds("next(2, 8), no latch", () -> x.next(2, 8) ? 1 : 0);
        check.illegalArgument("next(2, 0), an input", () -> x.next(2, 0) ? 1 : 0);
        check.illegalArgument("next(0, 0), FALSE", () -> x.next(0, 0) ? 1 : 0);
        x.replace(1, 4);
        check.illegalArgument("next(6, 2), gone", () -> x.next(6, 2) ? 1 : 0);
        check.illegalArgument("next(3, 0), gone", () -> x.next(3, 0) ? 1 : 0);
        check.due("nothing of it stays", 6, x.nextOf(6));
    }

    private static void nextOf() {
        InverterGraphs x = withInputs(1);
        x.latch(1);
        int and = x.and(2, 4);
        int outlet = x.box(0, 1);
        x.next(4, and + 1);
        check.due("nextOf(4)", and + 1, x.nextOf(4));
        check.due("nextOf(5)", and + 1, x.nextOf(5));
        check.illegalArgument("nextOf(0)", () -> x.nextOf(0));
        check.illegalArgument("nextOf(3)", () -> x.nextOf(3));
        check.illegalArgument("nextOf(and)", () -> x.nextOf(and));
        check.illegalArgument("nextOf(outlet)", () -> x.nextOf(outlet));
        check.outOfBounds("nextOf(10)", () -> x.nextOf(10));
        check.outOfBounds("nextOf(-1)", () -> x.nextOf(-1));
        x.replace(1, 1);
        check.illegalArgument("nextOf(2), gone", () -> x.nextOf(2));
        check.due("nextOf(4), replaced", 5, x.nextOf(4));
    }

    private static void box() {
        InverterGraphs x = withInputs(1);
        check.illegalArgument("box(-1, 1)", () -> x.box(-1, 1));
        check.illegalArgument("box(least, 1)", () -> x.box(LEAST, 1));
        check.illegalArgument("box(1, 1), no output", () -> x.box(1, 1));
        check.illegalArgument("box(0, 0)", () -> x.box(0, 0));
        check.illegalArgument("box(0, -1)", () -> x.box(0, -1));
        check.illegalArgument("box(0, 21)", () -> x.box(0, 21));
        check.illegalArgument("box(0, most)", () -> x.box(0, MOST));
        check.illegalArgument("box(most, 1)", () -> x.box(MOST, 1));
        check.due("nothing of these is a change", 1, x.count(4));
        check.due("box(0, 20)", 4, x.box(0, 20));
        check.due("twenty outlets", 22, x.count(0));
        check.due("the first one", 4, x.node(2, 0));
        check.due("the last one", 4, x.node(21, 0));
        check.due("box(0, 1)", 44, x.box(0, 1));
        InverterGraphs full = withNodes(398);
        check.unsupported("box(0, 3)", () -> full.box(0, 3));
        check.illegalArgument("box(1, 3)", () -> full.box(1, 3));
        check.illegalArgument("box(0, 21)", () -> full.box(0, 21));
        check.due("box(0, 2)", 796, full.box(0, 2));
        check.unsupported("box(0, 1)", () -> full.box(0, 1));
    }

    private static void boxTakesTheLatest() {
        InverterGraphs x = withInputs(4);
        for (int k = 0; k < 5; k++) {
            x.output(2 + k);
        }
        check.illegalArgument("box(6, 1)", () -> x.box(6, 1));
        check.due("box(2, 1)", 10, x.box(2, 1));
        check.due("output 2 stays", 4, x.outputAt(2));
        check.due("output 3 went", -1, x.outputAt(3));
        check.illegalArgument("box(1, 1): none behind those", () -> x.box(1, 1));
        x.output(8);
        x.output(9);
        check.due("box(0, 1) takes none", 12, x.box(0, 1));
        check.illegalArgument("box(3, 1)", () -> x.box(3, 1));
        check.due("box(1, 1)", 14, x.box(1, 1));
        check.due("output 5 stays", 8, x.outputAt(5));
        check.due("output 6 went", -1, x.outputAt(6));
        check.illegalArgument("box(1, 1): output 5 is before one that went", () -> x.box(1, 1));
        check.due("outputs", 7, x.count(2));
        x.undo();
        check.due("box(2, 3) after undo", 14, x.box(2, 3));
        check.due("output 5 went", -1, x.outputAt(5));
    }

    private static void replace() {
        InverterGraphs x = withInputs(3);
        int and = x.and(2, 4);
        int latch = x.latch(0);
        int outlet = x.box(0, 1);
        check.outOfBounds("replace(-1, 0)", () -> x.replace(-1, 0));
        check.outOfBounds("replace(7, 0)", () -> x.replace(7, 0));
        check.outOfBounds("replace(1, 14)", () -> x.replace(1, 14));
        check.outOfBounds("replace(1, -1)", () -> x.replace(1, -1));
        check.outOfBounds("replace(0, 14)", () -> x.replace(0, 14));
        check.illegalArgument("replace(0, 2)", () -> x.replace(0, 2));
        check.illegalArgument("replace(latch)", () -> x.replace(latch >> 1, 2));
        check.illegalArgument("replace(outlet)", () -> x.replace(outlet >> 1, 2));
        check.due("replace(3, outlet)", 0, x.replace(3, outlet));
        check.illegalArgument("replace(3, 0), gone", () -> x.replace(3, 0));
        check.illegalArgument("replace(1, 7), gone", () -> x.replace(1, 7));
        check.illegalArgument("replace(3, 7), both gone", () -> x.replace(3, 7));
        check.outOfBounds("replace(3, 14), gone", () -> x.replace(3, 14));
        check.due("replace(and, 1)", 0, x.replace(and >> 1, 1));
        check.due("what stands for it", 1, x.node(and >> 1, 3));
        check.due("replace(1, latch)", 0, x.replace(1, latch));
        check.due("replace(2, 1)", 0, x.replace(2, 1));
        check.due("no inputs", 0, x.count(1));
        check.due("changes", 10, x.count(4));
    }

    private static void replaceIsRefused() {
        InverterGraphs x = withInputs(3);
        int low = x.and(2, 4);
        int mid = x.and(low + 1, 6);
        int high = x.and(mid, 3);
        int changes = x.count(4);
        check.due("by itself", 1, x.replace(1, 2));
        check.due("by itself, turned", 1, x.replace(1, 3));
        check.due("and by itself", 1, x.replace(low >> 1, low + 1));
        check.due("by one just above", 1, x.replace(2, low));
        check.due("by one far above", 1, x.replace(2, high + 1));
        check.due("and by one above", 1, x.replace(low >> 1, high));
        check.due("refused is no change", changes, x.count(4));
        check.due("it still stands", 1, x.node(2, 0));
        check.illegalArgument("not refused but wrong: a latch", () -> x.replace(x.latch(0) >> 1, high));
        int latch = 14;
        x.next(latch, high);
        check.due("a latch stands above none", 0, x.replace(mid >> 1, latch));
        check.due("an and stands above its fanins, not they above it", 0, x.replace(high >> 1, 6));
    }

    private static void replaceSpreads() {
        InverterGraphs x = withInputs(4);
        int ab = x.and(2, 4);
        int ac = x.and(2, 6);
        int abd = x.and(ab, 8);
        int acd = x.and(ac, 8);
        int top = x.and(abd, acd + 1);
        int other = x.and(top + 1, ac + 1);
        x.output(top);
        x.output(other + 1);
        check.due("c by b", 0, x.replace(3, 4));
        check.due("ac is ab", ab, x.node(ac >> 1, 3));
        check.due("acd is abd", abd, x.node(acd >> 1, 3));
        check.due("top is 0", 0, x.node(top >> 1, 3));
        check.due("other is not ab", ab + 1, x.node(other >> 1, 3));
        check.due("output of top", 0, x.outputAt(0));
        check.due("output of other", ab, x.outputAt(1));
        check.due("size", 2, x.size());
        check.due("what stood then stays told", 0, x.replace(ab >> 1, 9));
        check.due("as it was then", ab, x.node(ac >> 1, 3));
        check.due("abd is 0", 0, x.node(abd >> 1, 3));
        check.due("output of other again", 9, x.outputAt(1));
    }

    /** One of a lesser number stands above one of a greater one, and is worked on again. */
    private static void replaceGoesOnToLesserNumbers() {
        InverterGraphs x = withInputs(5);
        int first = x.and(2, 4);
        int second = x.and(6, 8);
        int third = x.and(6, 10);
        int fourth = x.and(third, 4);
        check.due("a by the second", 0, x.replace(1, second));
        check.due("fanins, the lesser one first", 4, x.node(first >> 1, 1));
        check.due("fanins, the greater one last", second, x.node(first >> 1, 2));
        check.due("level of the first", 2, x.level(first >> 1));
        check.due("d by e", 0, x.replace(4, 10));
        check.due("second would not be new, third is it", third, x.node(second >> 1, 3));
        check.due("third stays", 2, x.node(third >> 1, 0));
        check.due("first has third then, as fourth has", fourth, x.node(first >> 1, 3));
        check.due("fourth stays", third, x.node(fourth >> 1, 2));
        check.due("third by not b", 0, x.replace(third >> 1, 5));
        check.due("fourth is 0", 0, x.node(fourth >> 1, 3));
        check.due("none is left", 0, x.size());
        InverterGraphs y = withInputs(4);
        int low = y.and(2, 4);
        int high = y.and(4, 6);
        int top = y.and(6, 8);
        y.replace(1, high);
        check.due("low stands above high", high, y.node(low >> 1, 2));
        y.replace(2, top);
        check.due("high takes top", top, y.node(high >> 1, 2));
        check.due("low takes top and high", high, y.node(low >> 1, 1));
        check.due("level of low", 3, y.level(low >> 1));
        y.replace(3, 1);
        check.due("top was d", 8, y.node(top >> 1, 3));
        check.due("high is worked on before top: top stands for it then", top, y.node(high >> 1, 3));
        check.due("low is both, and these are top by then", top, y.node(low >> 1, 3));
    }

    private static void replaceReachesUsers() {
        InverterGraphs x = withInputs(3);
        int latch = x.latch(0);
        int and = x.and(2, 4);
        x.output(3);
        x.output(and + 1);
        x.next(latch, 3);
        x.box(1, 2);
        check.due("a by not c", 0, x.replace(1, 7));
        check.due("output, turned twice", 6, x.outputAt(0));
        check.due("latch, turned twice", 6, x.nextOf(latch));
        check.due("and has it", 7, x.node(and >> 1, 2));
        check.due("uses of c", 3, x.fan(3));
        check.due("and by latch", 0, x.replace(and >> 1, latch));
        check.due("what went into a box is replaced, too", 1, x.fan(latch >> 1));
        check.due("and is still in it", -1, x.outputAt(1));
        check.due("uses of b", 0, x.fan(2));
    }

    private static void sweep() {
        InverterGraphs x = withInputs(4);
        int low = x.and(2, 4);
        int mid = x.and(low, 6);
        int high = x.and(mid, 8);
        int left = x.and(low, 8);
        int latched = x.and(2, 8);
        int boxed = x.and(4, 8);
        x.output(mid + 1);
        int latch = x.latch(0);
        x.next(latch, latched);
        x.output(boxed);
        x.box(1, 1);
        check.due("two that nobody uses", 2, x.sweep());
        check.due("high is gone", 5, x.node(high >> 1, 0));
        check.due("left is gone", 5, x.node(left >> 1, 0));
        check.due("nothing stands for it", -1, x.node(left >> 1, 3));
        check.due("no fanins", -1, x.node(left >> 1, 1));
        check.due("size", 4, x.size());
        check.due("again", 0, x.sweep());
        check.due("inputs stay", 4, x.count(1));
        check.due("uses of d", 2, x.fan(4));
        check.due("uses of low", 1, x.fan(low >> 1));
        int changes = x.count(4);
        x.sweep();
        check.due("none swept is no change", changes, x.count(4));
        x.next(latch, 2);
        check.due("the latch's", 1, x.sweep());
        check.due("the box's stays", 2, x.node(boxed >> 1, 0));
        check.due("undo", true, x.undo());
        check.due("is back", 2, x.node(latched >> 1, 0));
    }

    private static void undo() {
        InverterGraphs x = new InverterGraphs();
        check.due("nothing to take back", false, x.undo());
        x.input();
        check.due("undo of input", true, x.undo());
        check.due("its number is free", 1, x.count(0));
        check.outOfBounds("no such node", () -> x.node(1, 0));
        check.due("nothing more", false, x.undo());
        x.latch(0);
        x.input();
        x.next(2, 4);
        x.undo();
        check.due("undo of next", 0, x.nextOf(2));
        int and = x.and(2, 4);
        x.undo();
        check.outOfBounds("undo of and", () -> x.node(and >> 1, 0));
        check.due("and again", and, x.and(3, 4));
        x.undo();
        x.output(4);
        x.undo();
        check.outOfBounds("undo of output", () -> x.outputAt(0));
        x.output(5);
        x.box(1, 4);
        x.undo();
        check.due("undo of box", 5, x.outputAt(0));
        check.due("its outlets", 3, x.count(0));
        check.due("box again", 6, x.box(1, 1));
        check.due("what is taken back can't be again", 4, x.count(4));
    }

    private static void undoBringsAllBack() {
        InverterGraphs x = withInputs(3);
        int ab = x.and(2, 4);
        int top = x.and(ab + 1, 6);
        int latch = x.latch(1);
        x.next(latch, ab);
        x.output(top);
        x.output(2);
        x.box(1, 1);
        x.replace(1, 5);
        check.due("top is c", 6, x.node(top >> 1, 3));
        x.undo();
        check.due("a", 1, x.node(1, 0));
        check.due("stands for itself", -1, x.node(1, 3));
        check.due("ab", 2, x.node(ab >> 1, 0));
        check.due("its fanins", 2, x.node(ab >> 1, 1));
        check.due("its fanins", 4, x.node(ab >> 1, 2));
        check.due("top", ab + 1, x.node(top >> 1, 2));
        check.due("top", 6, x.node(top >> 1, 1));
        check.due("output", top, x.outputAt(0));
        check.due("latch", ab, x.nextOf(latch));
        check.due("uses of a: ab and the box", 2, x.fan(1));
        check.due("found again", ab, x.and(4, 2));
    }

    private static void undoKeepsThirty() {
        InverterGraphs x = new InverterGraphs();
        for (int k = 0; k < 35; k++) {
            x.input();
            check.due("changes", Math.min(30, k + 1), x.count(4));
        }
        for (int k = 0; k < 10; k++) {
            x.undo();
        }
        check.due("twenty are left", 20, x.count(4));
        for (int k = 0; k < 5; k++) {
            x.output(k);
        }
        check.due("twenty-five", 25, x.count(4));
        for (int k = 0; k < 25; k++) {
            check.due("undo " + k, true, x.undo());
        }
        check.due("no more", false, x.undo());
        check.due("five stay for ever", 6, x.count(0));
        check.due("no outputs", 0, x.count(2));
    }

    private static long mix(long seed, long k) {
        long z = seed + (k + 1) * 0x9E3779B97F4A7C15L;
        z = (z ^ (z >>> 30)) * 0xBF58476D1CE4E5B9L;
        z = (z ^ (z >>> 27)) * 0x94D049BB133111EBL;
        return z ^ (z >>> 31);
    }

    private static void simulate() {
        InverterGraphs x = withInputs(3);
        int ab = x.and(2, 5);
        int latch = x.latch(1);
        int top = x.and(ab + 1, latch);
        int outlet = x.box(0, 2);
        check.due("all stand", 9, x.simulate(-3));
        check.due("FALSE", 0, x.row(0));
        check.due("a", mix(-3, 0), x.row(1));
        check.due("c", mix(-3, 2), x.row(3));
        check.due("latch", mix(-3, 3), x.row(latch >> 1));
        check.due("outlet", mix(-3, 5), x.row((outlet >> 1) + 1));
        check.due("ab", mix(-3, 0) & ~mix(-3, 1), x.row(ab >> 1));
        check.due("top", ~x.row(ab >> 1) & mix(-3, 3), x.row(top >> 1));
        check.due("no change", 7, x.count(4));
        x.replace(1, outlet);
        check.due("one is gone", 8, x.simulate(Long.MAX_VALUE));
        check.due("b is the first one", mix(Long.MAX_VALUE, 0), x.row(2));
        check.due("latch is the third", mix(Long.MAX_VALUE, 2), x.row(latch >> 1));
        check.due("ab has the outlet", ~mix(Long.MAX_VALUE, 0) & mix(Long.MAX_VALUE, 3), x.row(ab >> 1));
        check.due("top after ab", ~x.row(ab >> 1) & mix(Long.MAX_VALUE, 2), x.row(top >> 1));
        x.sweep();
        check.due("three are gone", 6, x.simulate(0));
        x.simulate(1);
        check.due("another seed", mix(1, 0), x.row(2));
        InverterGraphs y = withInputs(4);
        int low = y.and(2, 4);
        int high = y.and(6, 8);
        y.replace(1, high);
        y.simulate(9);
        check.due("a lesser number above a greater", mix(9, 0) & mix(9, 1) & mix(9, 2), y.row(low >> 1));
        y.undo();
        y.replace(1, high + 1);
        y.simulate(9);
        check.due("above it turned", mix(9, 0) & ~(mix(9, 1) & mix(9, 2)), y.row(low >> 1));
        InverterGraphs z = withInputs(4);
        int[] ands = {z.and(2, 4), z.and(4, 6), z.and(6, 8)};
        z.replace(1, ands[1]);
        z.replace(2, ands[2] + 1);
        z.simulate(9);
        long lowest = mix(9, 0) & mix(9, 1);
        check.due("the greatest number is the lowest one", lowest, z.row(ands[2] >> 1));
        check.due("one above it", ~lowest & mix(9, 0), z.row(ands[1] >> 1));
        check.due("one above both", ~lowest & mix(9, 0), z.row(ands[0] >> 1));
        z.simulate(10);
        lowest = mix(10, 0) & mix(10, 1);
        check.due("the same, of another seed", ~lowest & mix(10, 0), z.row(ands[0] >> 1));
    }

    private static void row() {
        InverterGraphs x = withInputs(2);
        check.outOfBounds("row(3) before", () -> x.row(3));
        check.outOfBounds("row(-1) before", () -> x.row(-1));
        check.illegalState("row(1) before", () -> x.row(1));
        x.replace(1, 4);
        check.illegalState("row(1), gone, before", () -> x.row(1));
        x.simulate(4);
        check.due("the first input that stands", mix(4, 0), x.row(2));
        check.illegalArgument("row(1), gone", () -> x.row(1));
        check.outOfBounds("row(3)", () -> x.row(3));
        check.outOfBounds("row(least)", () -> x.row(LEAST));
        check.outOfBounds("row(most)", () -> x.row(MOST));
    }

    /** What is a change ends the rows, and what is none leaves them. */
    private static void rowsLast() {
        InverterGraphs x = withInputs(3);
        int latch = x.latch(0);
        int and = x.and(2, 4);
        x.output(and);
        x.simulate(1);
        x.and(4, 2);
        x.and(2, 3);
        x.next(latch, 0);
        x.replace(1, and);
        x.sweep();
        Check.outcome(() -> x.latch(2));
        Check.outcome(() -> x.output(-1));
        Check.outcome(() -> x.box(5, 1));
        check.due("still there", mix(1, 0), x.row(1));
        Check.Call[] changes = {
            () -> x.input(), () -> x.and(2, 5), () -> x.sweep(), () -> x.output(2), () -> x.latch(1),
            () -> x.next(latch, 2) ? 1 : 0, () -> x.box(0, 1), () -> x.replace(3, 2), () -> x.undo() ? 1 : 0,
        };
        for (int k = 0; k < changes.length; k++) {
            x.simulate(1);
            check.due("before change " + k, mix(1, 0), x.row(1));
            changes[k].answer();
            check.illegalState("after change " + k, () -> x.row(1));
        }
        x.simulate(1);
        x.input();
        x.undo();
        check.illegalState("undo does not bring rows back", () -> x.row(1));
    }

    private static void level() {
        InverterGraphs x = withInputs(3);
        int latch = x.latch(0);
        int low = x.and(2, 4);
        int mid = x.and(low + 1, 6);
        int high = x.and(low, mid + 1);
        int outlet = x.box(0, 1);
        x.next(latch, high);
        check.due("FALSE", 0, x.level(0));
        check.due("an input", 0, x.level(1));
        check.due("a latch", 0, x.level(latch >> 1));
        check.due("an outlet", 0, x.level(outlet >> 1));
        check.due("low", 1, x.level(low >> 1));
        check.due("mid", 2, x.level(mid >> 1));
        check.due("high", 3, x.level(high >> 1));
        check.outOfBounds("level(-1)", () -> x.level(-1));
        check.outOfBounds("level(9)", () -> x.level(9));
        check.outOfBounds("level(most)", () -> x.level(MOST));
        x.replace(low >> 1, latch);
        check.illegalArgument("level(low), gone", () -> x.level(low >> 1));
        check.due("mid is lower", 1, x.level(mid >> 1));
        check.due("high is lower", 2, x.level(high >> 1));
    }

    private static void fan() {
        InverterGraphs x = withInputs(2);
        check.due("unused", 0, x.fan(1));
        x.latch(0);
        check.due("a latch gets 0", 1, x.fan(0));
        x.next(6, 3);
        x.and(2, 4);
        x.and(2, 5);
        x.output(2);
        x.output(3);
        check.due("each time", 5, x.fan(1));
        check.due("b", 2, x.fan(2));
        check.due("FALSE", 0, x.fan(0));
        x.box(1, 1);
        check.due("a box's instead of an output's", 5, x.fan(1));
        x.output(1);
        check.due("true is FALSE's", 1, x.fan(0));
        x.sweep();
        check.due("those gone don't use it", 3, x.fan(1));
        check.due("b is unused", 0, x.fan(2));
        x.replace(1, 0);
        check.illegalArgument("fan(1), gone", () -> x.fan(1));
        check.due("all are FALSE's", 4, x.fan(0));
        check.outOfBounds("fan(-1)", () -> x.fan(-1));
        check.outOfBounds("fan(7)", () -> x.fan(7));
    }

    private static void node() {
        InverterGraphs x = withInputs(2);
        x.latch(1);
        x.and(5, 3);
        x.box(0, 1);
        int[] sorts = {0, 1, 1, 3, 2, 4};
        for (int node = 0; node < sorts.length; node++) {
            check.due("sort of " + node, sorts[node], x.node(node, 0));
            check.due("lesser fanin of " + node, node == 4 ? 3 : -1, x.node(node, 1));
            check.due("greater fanin of " + node, node == 4 ? 5 : -1, x.node(node, 2));
            check.due("what stands for " + node, -1, x.node(node, 3));
        }
        check.illegalArgument("node(1, 4)", () -> x.node(1, 4));
        check.illegalArgument("node(1, -1)", () -> x.node(1, -1));
        check.illegalArgument("node(0, least)", () -> x.node(0, LEAST));
        check.outOfBounds("node(6, 0)", () -> x.node(6, 0));
        check.outOfBounds("node(-1, 0)", () -> x.node(-1, 0));
        check.outOfBounds("node(6, 9)", () -> x.node(6, 9));
        x.replace(4, 11);
        check.due("gone", 5, x.node(4, 0));
        check.due("no fanin", -1, x.node(4, 1));
        check.due("no fanin", -1, x.node(4, 2));
        check.due("replaced", 11, x.node(4, 3));
        check.illegalArgument("node(4, 4), gone", () -> x.node(4, 4));
    }

    private static void size() {
        InverterGraphs x = withInputs(3);
        check.due("no ands", 0, x.size());
        x.and(2, 4);
        x.and(4, 6);
        x.and(8, 10);
        x.and(4, 2);
        check.due("three", 3, x.size());
        x.replace(3, 0);
        check.due("two were 0", 1, x.size());
        x.sweep();
        check.due("none", 0, x.size());
        x.undo();
        x.undo();
        check.due("three again", 3, x.size());
    }

    private static void count() {
        InverterGraphs x = withInputs(4);
        x.latch(0);
        x.latch(1);
        x.box(0, 3);
        x.and(x.and(2, 4), 6);
        x.output(1);
        x.output(2);
        x.box(1, 1);
        x.replace(4, 3);
        int[] due = {13, 3, 2, 2, 13, 2};
        for (int what = 0; what < due.length; what++) {
            check.due("count(" + what + ")", due[what], x.count(what));
        }
        check.illegalArgument("count(6)", () -> x.count(6));
        check.illegalArgument("count(-1)", () -> x.count(-1));
        check.illegalArgument("count(least)", () -> x.count(LEAST));
        check.due("two ands are swept", 2, x.sweep());
        check.due("numbers stay given", 13, x.count(0));
        check.due("no levels", 0, x.count(5));
        check.due("one change more", 14, x.count(4));
    }

    private static void callsThatThrowChangeNothing() {
        InverterGraphs x = withNodes(400);
        int changes = x.count(4);
        x.simulate(2);
        Check.Call[] calls = {
            () -> x.input(), () -> x.latch(0), () -> x.latch(9), () -> x.box(0, 1), () -> x.box(1, 1),
            () -> x.and(2, 4), () -> x.and(2, 800), () -> x.output(-1), () -> x.next(2, 0) ? 1 : 0,
            () -> x.replace(0, 0), () -> x.replace(1, 0), () -> x.replace(400, 0), () -> x.outputAt(0),
            () -> x.nextOf(2), () -> x.level(400), () -> x.fan(-1), () -> x.node(1, 7), () -> x.count(7),
        };
        for (int k = 0; k < calls.length; k++) {
            check.due("call " + k + " throws", true, Check.outcome(calls[k]).startsWith("throws."));
        }
        check.due("no changes", changes, x.count(4));
        check.due("no nodes", 400, x.count(0));
        check.due("rows stay", mix(2, 0), x.row(1));
    }
}
