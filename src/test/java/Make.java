/** Objects that tests begin with. */
final class Make {
    private Make() {
    }

    /** Inputs 2, 4, .. alone. */
    static InverterGraphs inputs(int many) {
        InverterGraphs x = new InverterGraphs();
        for (int k = 0; k < many; k++) {
            x.input();
        }
        return x;
    }

    /** So many nodes: FALSE, inputs 2, 4 and 6, and then outlets, as twenty come by one call. */
    static InverterGraphs filled(int nodes) {
        InverterGraphs x = inputs(3);
        int left = nodes - 4;
        while (left > 0) {
            int outlets = Math.min(left, 20);
            x.box(0, outlets);
            left -= outlets;
        }
        return x;
    }

    /** As many ands as there is room for, of inputs 2 and 4, each above the one before it, turned: 6, 8, .. 798. */
    static InverterGraphs chain() {
        InverterGraphs x = inputs(2);
        int latest = x.and(2, 4);
        for (int k = 1; k < 397; k++) {
            latest = x.and(latest + 1, 2 + latest % 4);
        }
        return x;
    }

    /**
     * Ands 204, 206, .. 402 of input 2 and the next one turned, so that lesser numbers stand above greater ones;
     * the last one has input 202 instead. It takes 300 calls.
     */
    static InverterGraphs upsideDown() {
        InverterGraphs x = inputs(101);
        for (int k = 0; k < 100; k++) {
            x.and(2, 4 + 2 * k);
        }
        for (int k = 98; k >= 0; k--) {
            x.replace(2 + k, 204 + 2 * (k + 1) + 1);
        }
        return x;
    }

    /**
     * One node of each sort, and users of them: inputs 2, 4 and 6, ands 8 (2, 4), 10 (6, 9), 12 (4, 11, nobody's),
     * latch 14 that gets 9 next, output 0 of 10, output 1 of 5, which went into the box with outlets 16 and 18,
     * and input 20, replaced by 7: node 10 is gone. These are 13 changes.
     */
    static InverterGraphs ofAllSorts() {
        InverterGraphs x = inputs(3);
        x.and(2, 4);
        x.and(6, 9);
        x.and(4, 11);
        x.latch(1);
        x.next(14, 9);
        x.output(10);
        x.output(5);
        x.box(1, 2);
        x.input();
        x.replace(10, 7);
        return x;
    }
}
