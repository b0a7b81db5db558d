/** States in which each kind of call is tried. */
enum Stock implements Edge.Recipe {
    /** Nothing was called yet. */
    FRESH {
        @Override
        public FactorMatch make() {
            return new FactorMatch();
        }
    },
    /** A few of each: a history that is full, both snapshots, a text, other settings. */
    BUSY {
        @Override
        public FactorMatch make() {
            FactorMatch x = Edge.with("aw2x", "bcw3", "a");
            x.take(1);
            Edge.put(x, 2, "a5b4c2d");
            x.take(0);
            x.set(1, 4);
            Edge.type(x, "aw2");
            return x;
        }
    },
    /** All that has an upper bound is at it. */
    FULL {
        @Override
        public FactorMatch make() {
            String all = "a9b9c9d9";
            FactorMatch x = Edge.with(all + "w5x5y5z5", all + "w5x5y5z5", all);
            x.take(0);
            x.take(1);
            Edge.type(x, "a2".repeat(30));
            return x;
        }
    },
    /** No value may be empty, and none may hold anything. */
    LOW {
        @Override
        public FactorMatch make() {
            FactorMatch x = Edge.with("wz", "y", "b");
            x.set(0, 0);
            x.set(1, 0);
            return x;
        }
    },
    /** More matchers than an int can tell; one snapshot; a text with errors. */
    MANY {
        @Override
        public FactorMatch make() {
            FactorMatch x = Edge.with("wxyz", "a", "a9b9c9d9");
            x.take(1);
            Edge.type(x, "1a!");
            return x;
        }
    },
    /** A rest below 0, a text that is complete, one saved state. */
    BELOW {
        @Override
        public FactorMatch make() {
            FactorMatch x = new FactorMatch();
            x.constant(0, 3, 1);
            Edge.type(x, "1");
            return x;
        }
    };

    @Override
    public abstract FactorMatch make();
}
