/** The sentences of the settings, and the promises 1 to 6, 15, 17, 18 and 20. */
final class FerryEdges {
    private FerryEdges() {
    }

    static void all() {
        newObject();
        settings();
        ferry();
        ferryArguments();
        ferryRefused();
        drop();
        kind();
        clock();
        set();
        setRefused();
        setting();
        ferryOf();
        ferryOfRefused();
        leaves();
        leavesRefused();
        costs();
        costsRefused();
    }

    private static void newObject() {
        Document.says("Promise 1", "Creates islands without ferries, with an empty buffer.");
        TideFares x = new TideFares();
        Edge.due("count(0)", 0, x.count(0));
        Edge.due("count(1)", 0, x.count(1));
        Edge.due("count(2)", 0, x.count(2));
        Edge.due("count(3)", 200, x.count(3));
        Edge.due("count(4)", 0, x.count(4));
        Edge.due("firstError()", 0, x.firstError());
        Edge.due("clearBuffer()", 0, x.clearBuffer());
        Edge.refused(TideFares::new, Edge.INDEX, "ferryOf(0, 0)", y -> y.ferryOf(0, 0));
        TideFares other = Edge.busy();
        Edge.due("another object is of its own: count(0)", 0, new TideFares().count(0));
        Edge.due("another object is of its own: clearBuffer()", 5, other.clearBuffer());
    }

    private static void settings() {
        Document.says("Settings", "0: the tide, 0 to 719, at first 0;");
        Edge.due("the tide at first", 0, new TideFares().setting(0));
        Edge.range(Edge::busy, Edge.ARGUMENT, "the tide", 0, 719, (x, tide) -> {
            x.set(0, tide);
            return x.setting(0);
        });
        Document.says("Settings", "1: dear minutes of an hour, 0 to 60, at first 30.");
        Edge.due("dear minutes at first", 30, new TideFares().setting(1));
        Edge.range(Edge::busy, Edge.ARGUMENT, "dear minutes", 0, 60, (x, dear) -> {
            x.set(1, dear);
            return x.setting(1);
        });
    }

    private static void ferry() {
        Document.says("Promise 2", "Tells a ferry of the kind 0.");
        TideFares x = new TideFares();
        Document.says("Promise 2", "Returns its number.");
        Edge.due("the first one", 0, x.ferry(0, 7, 0, 1, 1, 0));
        Edge.due("the second one", 1, x.ferry(7, 0, 199, 199, 99, 99));
        Edge.due("the third one, as the first", 2, x.ferry(0, 7, 0, 1, 1, 0));
        int[][] due = {{0, 7, 0, 1, 1, 0, 0, 0, 0}, {7, 0, 199, 199, 99, 99, 0, 0, 0}, {0, 7, 0, 1, 1, 0, 0, 0, 0}};
        for (int ferry = 0; ferry < 3; ferry++) {
            for (int what = 0; what < 9; what++) {
                Edge.due("ferryOf(" + ferry + ", " + what + ")", due[ferry][what], x.ferryOf(ferry, what));
            }
        }
        for (int number = 3; number < 14; number++) {
            Edge.due("one more", number, x.ferry(1, 2, 3, 4, 5, 6));
        }
        // A row that a ferry of another kind has left must not show in the next one.
        TideFares y = Checks.with("ab@0/1+1$0_");
        y.clock(0, 59);
        y.place(0, 0, 360, 0);
        y.take(0, 0);
        y.drop(0);
        y.ferry(1, 2, 3, 4, 5, 6);
        int[] fresh = {1, 2, 3, 4, 5, 6, 0, 0, 0};
        for (int what = 0; what < 9; what++) {
            Edge.due("told behind a drop: ferryOf(0, " + what + ")", fresh[what], y.ferryOf(0, what));
        }
        Document.says("Promise 2", "Undoable.");
        Edge.undoable("ferry", z -> z.ferry(1, 2, 3, 4, 5, 6));
    }

    private static void ferryArguments() {
        Document.says("Promise 2", "- `from`: 0 to 7");
        Edge.range(Edge::busy, Edge.INDEX, "from", 0, 7, (x, from) -> {
            x.ferry(from, from == 5 ? 4 : 5, 0, 1, 1, 0);
            return x.ferryOf(4, 0);
        });
        Document.says("Promise 2", "- `to`: 0 to 7, another one");
        Edge.range(Edge::busy, Edge.INDEX, "to", 0, 7, (x, to) -> {
            x.ferry(to == 5 ? 4 : 5, to, 0, 1, 1, 0);
            return x.ferryOf(4, 1);
        });
        Document.says("Promise 2", "- `first`: 0 to 199");
        Edge.range(Edge::busy, Edge.ARGUMENT, "first", 0, 199, (x, first) -> {
            x.ferry(0, 1, first, 1, 1, 0);
            return x.ferryOf(4, 2);
        });
        Document.says("Promise 2", "- `interval`: 1 to 199");
        Edge.range(Edge::busy, Edge.ARGUMENT, "interval", 1, 199, (x, interval) -> {
            x.ferry(0, 1, 0, interval, 1, 0);
            return x.ferryOf(4, 3);
        });
        Document.says("Promise 2", "- `needs`: 1 to 99");
        Edge.range(Edge::busy, Edge.ARGUMENT, "needs", 1, 99, (x, needs) -> {
            x.ferry(0, 1, 0, 1, needs, 0);
            return x.ferryOf(4, 4);
        });
        Document.says("Promise 2", "- `fare`: 0 to 99");
        Edge.range(Edge::busy, Edge.ARGUMENT, "fare", 0, 99, (x, fare) -> {
            x.ferry(0, 1, 0, 1, 1, fare);
            return x.ferryOf(4, 5);
        });
    }

    private static void ferryRefused() {
        Document.says("Promise 2", "Throws `IndexOutOfBoundsException` if there is no such island");
        int[][] nowhere = {{-1, 1}, {8, 1}, {0, -1}, {0, 8}, {-1, -1}, {8, 8}, {3, 8}, {-1, 3}};
        for (int[] way : nowhere) {
            Edge.refused(Edge::busy, Edge.INDEX, "from " + way[0] + " to " + way[1],
                    x -> x.ferry(way[0], way[1], 0, 1, 1, 0));
            Edge.refused(Edge::full, Edge.INDEX, "from " + way[0] + " to " + way[1] + ", all wrong, the 15th",
                    x -> x.ferry(way[0], way[1], 200, 0, 100, -1));
        }
        Document.says("Promise 2", "Throws `IllegalArgumentException` if from and to are the same, "
                + "or first, interval, needs or fare is out of range");
        int[][] wrong = {{0, 0, 0, 1, 1, 0}, {7, 7, 0, 1, 1, 0}, {0, 1, -1, 1, 1, 0}, {0, 1, 200, 1, 1, 0},
            {0, 1, 0, 0, 1, 0}, {0, 1, 0, 200, 1, 0}, {0, 1, 0, 1, 0, 0}, {0, 1, 0, 1, 100, 0}, {0, 1, 0, 1, 1, -1},
            {0, 1, 0, 1, 1, 100}};
        for (int[] told : wrong) {
            Edge.refused(Edge::busy, Edge.ARGUMENT, "ferry " + java.util.Arrays.toString(told),
                    x -> x.ferry(told[0], told[1], told[2], told[3], told[4], told[5]));
            Edge.refused(Edge::full, Edge.ARGUMENT, "the 15th ferry " + java.util.Arrays.toString(told),
                    x -> x.ferry(told[0], told[1], told[2], told[3], told[4], told[5]));
        }
        Document.says("Promise 2", "Throws `IllegalStateException` if there are 14 ferries");
        Edge.refused(Edge::full, Edge.STATE, "the 15th ferry", x -> x.ferry(0, 1, 0, 1, 1, 0));
        TideFares x = Edge.full();
        Edge.due("13 of them", 13, x.drop(0));
        Edge.due("the 14th ferry", 13, x.ferry(0, 1, 0, 1, 1, 0));
        x.undo();
        Edge.due("the 14th ferry again", 13, x.ferry(0, 1, 0, 1, 1, 0));
    }

    private static void drop() {
        Document.says("Promise 3", "Drops a ferry.");
        TideFares x = Edge.busy();
        Document.says("Promise 3", "Returns how many ferries there are then.");
        Edge.due("drop(1) of four", 3, x.drop(1));
        int[] behind = {2, 3, 199, 199, 99, 99, 1, 59, 1};
        int[] ahead = {0, 1, 10, 30, 20, 5, 0, 0, 1};
        for (int what = 0; what < 9; what++) {
            Edge.due("the one behind: ferryOf(1, " + what + ")", behind[what], x.ferryOf(1, what));
            Edge.due("the one ahead: ferryOf(0, " + what + ")", ahead[what], x.ferryOf(0, what));
        }
        Edge.due("the last one of three", 2, x.drop(2));
        Edge.due("the first one of two", 1, x.drop(0));
        Edge.due("the only one", 0, x.drop(0));
        Edge.due("what was taken stays counted", 2, x.count(1));
        Edge.due("what was paid stays counted", 208, x.count(2));
        Document.says("Promise 3", "Undoable.");
        Edge.undoable("drop of the first one", y -> y.drop(0));
        Edge.undoable("drop of the last one", y -> y.drop(2));
        Document.says("Promise 3", "- `ferry`: its number");
        Edge.range(Edge::full, Edge.INDEX, "drop", 0, 13, (y, ferry) -> {
            Edge.due("drop of 14", 13, y.drop(ferry));
            return ferry < 13 ? y.ferryOf(ferry, 2) - 21 : y.ferryOf(12, 2) - 19;
        });
        Document.says("Promise 3", "Throws `IndexOutOfBoundsException` if there is no such ferry");
        Edge.refused(TideFares::new, Edge.INDEX, "drop(0) of none", y -> y.drop(0));
        Edge.refused(Edge::busy, Edge.INDEX, "drop(4) of four", y -> y.drop(4));
        Edge.refused(Edge::busy, Edge.INDEX, "drop(-1)", y -> y.drop(-1));
    }

    private static void kind() {
        Document.says("Promise 4", "Changes the kind of a ferry.", "Returns the previous kind.");
        TideFares x = Edge.busy();
        Edge.due("kind(2, 2)", 1, x.kind(2, 2));
        Edge.due("kind(2, 2) again", 2, x.kind(2, 2));
        Edge.due("kind(2, 0)", 2, x.kind(2, 0));
        Edge.due("kind(3, 1)", 0, x.kind(3, 1));
        int[] kinds = {0, 2, 0, 1};
        for (int ferry = 0; ferry < 4; ferry++) {
            Edge.due("ferryOf(" + ferry + ", 6)", kinds[ferry], x.ferryOf(ferry, 6));
        }
        Document.says("Promise 4", "Undoable.");
        Edge.undoable("kind", y -> y.kind(2, 0));
        Edge.undoable("kind as it is", y -> y.kind(0, 0));
        Document.says("Promise 4", "- `ferry`: its number");
        Edge.range(Edge::full, Edge.INDEX, "kind: a ferry", 0, 13, (y, ferry) -> {
            y.kind(ferry, 2);
            return y.ferryOf(ferry, 6) == 2 ? ferry : -1;
        });
        Document.says("Promise 4", "- `kind`: 0 to 2");
        Edge.range(Edge::busy, Edge.ARGUMENT, "kind: a kind", 0, 2, (y, kind) -> {
            y.kind(3, kind);
            return y.ferryOf(3, 6);
        });
        Document.says("Promise 4", "Throws `IndexOutOfBoundsException` if there is no such ferry");
        Edge.refused(TideFares::new, Edge.INDEX, "kind(0, 0) of none", y -> y.kind(0, 0));
        Edge.refused(Edge::busy, Edge.INDEX, "kind(4, 0) of four", y -> y.kind(4, 0));
        Edge.refused(Edge::busy, Edge.INDEX, "kind(4, 3) of four", y -> y.kind(4, 3));
        Edge.refused(Edge::busy, Edge.INDEX, "kind(-1, -1)", y -> y.kind(-1, -1));
        Document.says("Promise 4", "Throws `IllegalArgumentException` if kind is out of range");
        Edge.refused(Edge::busy, Edge.ARGUMENT, "kind(0, 3)", y -> y.kind(0, 3));
        Edge.refused(Edge::busy, Edge.ARGUMENT, "kind(3, -1)", y -> y.kind(3, -1));
    }

    private static void clock() {
        Document.says("Promise 5", "Changes the clock of a ferry.", "Returns what it was.");
        TideFares x = Edge.busy();
        Edge.due("clock(2, 1)", 59, x.clock(2, 1));
        Edge.due("clock(2, 0)", 1, x.clock(2, 0));
        Edge.due("clock(0, 59)", 0, x.clock(0, 59));
        int[] clocks = {59, 0, 0, 0};
        for (int ferry = 0; ferry < 4; ferry++) {
            Edge.due("ferryOf(" + ferry + ", 7)", clocks[ferry], x.ferryOf(ferry, 7));
        }
        Document.says("Promise 5", "Undoable.");
        Edge.undoable("clock", y -> y.clock(2, 59));
        Edge.undoable("clock as it is", y -> y.clock(0, 0));
        Document.says("Promise 5", "- `ferry`: its number");
        Edge.range(Edge::full, Edge.INDEX, "clock: a ferry", 0, 13, (y, ferry) -> {
            y.clock(ferry, 9);
            return y.ferryOf(ferry, 7) == 9 ? ferry : -1;
        });
        Document.says("Promise 5", "- `fast`: 0 to 59");
        Edge.range(Edge::busy, Edge.ARGUMENT, "clock: minutes", 0, 59, (y, fast) -> {
            y.clock(3, fast);
            return y.ferryOf(3, 7);
        });
        Document.says("Promise 5", "Throws `IndexOutOfBoundsException` if there is no such ferry");
        Edge.refused(TideFares::new, Edge.INDEX, "clock(0, 0) of none", y -> y.clock(0, 0));
        Edge.refused(Edge::busy, Edge.INDEX, "clock(4, 0) of four", y -> y.clock(4, 0));
        Edge.refused(Edge::busy, Edge.INDEX, "clock(4, 60) of four", y -> y.clock(4, 60));
        Edge.refused(Edge::busy, Edge.INDEX, "clock(-1, -1)", y -> y.clock(-1, -1));
        Document.says("Promise 5", "Throws `IllegalArgumentException` if fast is out of range");
        Edge.refused(Edge::busy, Edge.ARGUMENT, "clock(0, 60)", y -> y.clock(0, 60));
        Edge.refused(Edge::busy, Edge.ARGUMENT, "clock(3, -1)", y -> y.clock(3, -1));
    }

    private static void set() {
        Document.says("Promise 6", "Changes a setting.", "Returns the previous value.");
        TideFares x = new TideFares();
        Edge.due("set(0, 719)", 0, x.set(0, 719));
        Edge.due("set(1, 60)", 30, x.set(1, 60));
        Edge.due("set(0, 0)", 719, x.set(0, 0));
        Edge.due("set(1, 0)", 60, x.set(1, 0));
        Edge.due("set(1, 0) again", 0, x.set(1, 0));
        Edge.due("setting(0)", 0, x.setting(0));
        Edge.due("setting(1)", 0, x.setting(1));
        Document.says("Promise 6", "Undoable.");
        Edge.undoable("set of the tide", y -> y.set(0, 719));
        Edge.undoable("set of the dear minutes", y -> y.set(1, 60));
        Edge.undoable("set as it is", y -> y.set(0, 0));
        Document.says("Promise 6", "- `setting`: 0 or 1");
        Edge.range(Edge::busy, Edge.INDEX, "set: a setting", 0, 1, (y, setting) -> {
            y.set(setting, 7);
            return y.setting(setting) == 7 && y.setting(1 - setting) != 7 ? setting : -1;
        });
        Document.says("Promise 6", "- `value`: the new value");
        Edge.range(Edge::busy, Edge.ARGUMENT, "set: a tide", 0, 719, (y, value) -> {
            y.set(0, value);
            return y.setting(0);
        });
        Edge.range(Edge::busy, Edge.ARGUMENT, "set: dear minutes", 0, 60, (y, value) -> {
            y.set(1, value);
            return y.setting(1);
        });
    }

    private static void setRefused() {
        Document.says("Promise 6", "Throws `IndexOutOfBoundsException` if there is no such setting");
        Edge.refused(Edge::busy, Edge.INDEX, "set(2, 0)", x -> x.set(2, 0));
        Edge.refused(Edge::busy, Edge.INDEX, "set(-1, 0)", x -> x.set(-1, 0));
        Edge.refused(Edge::busy, Edge.INDEX, "set(2, 720)", x -> x.set(2, 720));
        Edge.refused(Edge::busy, Edge.INDEX, "set(-1, -1)", x -> x.set(-1, -1));
        Document.says("Promise 6", "Throws `IllegalArgumentException` if value is out of range");
        Edge.refused(Edge::busy, Edge.ARGUMENT, "set(0, 720)", x -> x.set(0, 720));
        Edge.refused(Edge::busy, Edge.ARGUMENT, "set(0, -1)", x -> x.set(0, -1));
        Edge.refused(Edge::busy, Edge.ARGUMENT, "set(1, 61)", x -> x.set(1, 61));
        Edge.refused(Edge::busy, Edge.ARGUMENT, "set(1, -1)", x -> x.set(1, -1));
    }

    private static void setting() {
        Document.says("Promise 20", "Returns a setting.", "Returns its value.");
        Edge.due("setting(0)", 100, Edge.busy().setting(0));
        Edge.due("setting(1)", 45, Edge.busy().setting(1));
        Edge.looks(Edge::busy, "setting(0)", x -> x.setting(0));
        Edge.looks(Edge::busy, "setting(1)", x -> x.setting(1));
        Document.says("Promise 20", "- `setting`: 0 or 1");
        Edge.range(Edge::busy, Edge.INDEX, "setting", 0, 1, (x, setting) -> {
            x.setting(setting);
            return setting;
        });
        Document.says("Promise 20", "Throws `IndexOutOfBoundsException` if there is no such setting");
        Edge.refused(Edge::busy, Edge.INDEX, "setting(2)", x -> x.setting(2));
        Edge.refused(Edge::busy, Edge.INDEX, "setting(-1)", x -> x.setting(-1));
    }

    private static void ferryOf() {
        Document.says("Promise 15", "Returns something of a ferry.", "Returns the number.");
        Document.says("Promise 15", "- `what`: 0: the island from which it goes; 1: that to which it goes; "
                + "2: the first minute; 3: the interval; 4: the minutes that it needs; 5: its fare; 6: its kind; "
                + "7: its clock; 8: how often it was taken so far");
        int[][] due = {{0, 1, 10, 30, 20, 5, 0, 0, 1}, {1, 2, 0, 1, 1, 0, 2, 0, 0},
            {2, 3, 199, 199, 99, 99, 1, 59, 1}, {3, 0, 5, 7, 11, 13, 0, 0, 0}};
        for (int ferry = 0; ferry < 4; ferry++) {
            for (int what = 0; what < 9; what++) {
                int number = ferry;
                int asked = what;
                Edge.due("ferryOf(" + ferry + ", " + what + ")", due[ferry][what], Edge.busy().ferryOf(ferry, what));
                Edge.looks(Edge::busy, "ferryOf(" + ferry + ", " + what + ")", x -> x.ferryOf(number, asked));
            }
        }
        TideFares x = Edge.busy();
        x.place(2, 2, 0, 999);
        x.take(2, 2);
        Edge.due("taken by another traveller too", 2, x.ferryOf(2, 8));
        x.undo();
        Edge.due("taken, and undone", 1, x.ferryOf(2, 8));
        Edge.range(Edge::busy, Edge.ARGUMENT, "ferryOf: what", 0, 8, (y, what) -> {
            y.ferryOf(3, what);
            return what;
        });
        Document.says("Promise 15", "- `ferry`: its number");
        Edge.range(Edge::full, Edge.INDEX, "ferryOf: a ferry", 0, 13, (y, ferry) -> y.ferryOf(ferry, 2) - 20);
    }

    private static void ferryOfRefused() {
        Document.says("Promise 15", "Throws `IndexOutOfBoundsException` if there is no such ferry");
        Edge.refused(TideFares::new, Edge.INDEX, "ferryOf(0, 0) of none", x -> x.ferryOf(0, 0));
        Edge.refused(Edge::busy, Edge.INDEX, "ferryOf(4, 8) of four", x -> x.ferryOf(4, 8));
        Edge.refused(Edge::busy, Edge.INDEX, "ferryOf(4, 9) of four", x -> x.ferryOf(4, 9));
        Edge.refused(Edge::busy, Edge.INDEX, "ferryOf(-1, -1)", x -> x.ferryOf(-1, -1));
        Document.says("Promise 15", "Throws `IllegalArgumentException` if what is not 0 to 8");
        Edge.refused(Edge::busy, Edge.ARGUMENT, "ferryOf(0, 9)", x -> x.ferryOf(0, 9));
        Edge.refused(Edge::busy, Edge.ARGUMENT, "ferryOf(3, -1)", x -> x.ferryOf(3, -1));
    }

    private static void leaves() {
        Document.says("Promise 17", "Tells when a ferry leaves.");
        Document.says("Promise 17", "Returns the minute at which it leaves for the first time from this minute on; "
                + "NONE if it does not any more.");
        TideFares x = Checks.with("ab@11/30+20$5;ab@199/199+1$0_;ab@0/1+1$0");
        int[][] due = {{0, 11}, {10, 11}, {11, 11}, {12, 41}, {41, 41}, {42, 71}, {1391, 1391}, {1392, 1421},
            {1421, 1421}, {1422, -1}, {1439, -1}, {1440, -1}, {1539, -1}};
        for (int[] minutes : due) {
            Edge.due("leaves(0, " + minutes[0] + ")", minutes[1], x.leaves(0, minutes[0]));
        }
        // 199 is at high tide, 398 and 597 at low tide, 796 and 995 at high tide, 1194 and 1393 at low tide.
        int[][] byTide = {{0, 398}, {398, 398}, {399, 597}, {597, 597}, {598, 1194}, {1194, 1194}, {1195, 1393},
            {1393, 1393}, {1394, -1}};
        for (int[] minutes : byTide) {
            Edge.due("leaves(1, " + minutes[0] + ")", minutes[1], x.leaves(1, minutes[0]));
        }
        Edge.due("leaves(2, 1439)", 1439, x.leaves(2, 1439));
        Edge.due("leaves(2, 1440)", TideFares.NONE, x.leaves(2, 1440));
        Edge.looks(Edge::busy, "leaves(2, 600)", y -> y.leaves(2, 600));
        Document.says("Promise 17", "- `ferry`: its number");
        Edge.range(Edge::full, Edge.INDEX, "leaves: a ferry", 0, 13, (y, ferry) -> y.leaves(ferry, 0) - 20);
        Document.says("Promise 17", "- `minute`: 0 to 1539");
        Edge.range(Edge::busy, Edge.ARGUMENT, "leaves: a minute", 0, 1539, (y, minute) -> {
            y.leaves(0, minute);
            return minute;
        });
    }

    private static void leavesRefused() {
        Document.says("Promise 17", "Throws `IndexOutOfBoundsException` if there is no such ferry");
        Edge.refused(TideFares::new, Edge.INDEX, "leaves(0, 0) of none", x -> x.leaves(0, 0));
        Edge.refused(Edge::busy, Edge.INDEX, "leaves(4, 0) of four", x -> x.leaves(4, 0));
        Edge.refused(Edge::busy, Edge.INDEX, "leaves(4, 1540) of four", x -> x.leaves(4, 1540));
        Edge.refused(Edge::busy, Edge.INDEX, "leaves(-1, -1)", x -> x.leaves(-1, -1));
        Document.says("Promise 17", "Throws `IllegalArgumentException` if minute is out of range");
        Edge.refused(Edge::busy, Edge.ARGUMENT, "leaves(0, 1540)", x -> x.leaves(0, 1540));
        Edge.refused(Edge::busy, Edge.ARGUMENT, "leaves(3, -1)", x -> x.leaves(3, -1));
    }

    private static void costs() {
        Document.says("Promise 18", "Tells what a ferry costs.", "Returns the coins.");
        TideFares x = Checks.with("ab@11/30+20$5;ab@0/1+1$0;ab@0/1+1$99_");
        int[][] due = {{0, 10}, {29, 10}, {30, 5}, {59, 5}, {60, 10}, {1379, 5}, {1380, 10}, {1409, 10}, {1410, 5},
            {1438, 5}, {1439, 5}};
        for (int[] costs : due) {
            Edge.due("costs(0, " + costs[0] + ")", costs[1], x.costs(0, costs[0]));
            Edge.due("costs(1, " + costs[0] + ")", 0, x.costs(1, costs[0]));
        }
        Document.says("Promise 18", "- `minute`: 0 to 1439: that at which it would leave (whether it does or not)");
        Edge.due("ahead of its first minute: costs(0, 10)", 10, x.costs(0, 10));
        Edge.due("between two leavings: costs(0, 40)", 5, x.costs(0, 40));
        Edge.due("a leaving that the tide cancels: costs(2, 0)", 198, x.costs(2, 0));
        Edge.due("a leaving that the tide cancels: costs(2, 30)", 99, x.costs(2, 30));
        Edge.range(Edge::busy, Edge.ARGUMENT, "costs: a minute", 0, 1439, (y, minute) -> {
            y.costs(0, minute);
            return minute;
        });
        Edge.looks(Edge::busy, "costs(2, 600)", y -> y.costs(2, 600));
        Document.says("Promise 18", "- `ferry`: its number");
        Edge.range(Edge::full, Edge.INDEX, "costs: a ferry", 0, 13, (y, ferry) -> y.costs(ferry, 59) - 80);
    }

    private static void costsRefused() {
        Document.says("Promise 18", "Throws `IndexOutOfBoundsException` if there is no such ferry");
        Edge.refused(TideFares::new, Edge.INDEX, "costs(0, 0) of none", x -> x.costs(0, 0));
        Edge.refused(Edge::busy, Edge.INDEX, "costs(4, 0) of four", x -> x.costs(4, 0));
        Edge.refused(Edge::busy, Edge.INDEX, "costs(4, 1440) of four", x -> x.costs(4, 1440));
        Edge.refused(Edge::busy, Edge.INDEX, "costs(-1, -1)", x -> x.costs(-1, -1));
        Document.says("Promise 18", "Throws `IllegalArgumentException` if minute is out of range");
        Edge.refused(Edge::busy, Edge.ARGUMENT, "costs(0, 1440)", x -> x.costs(0, 1440));
        Edge.refused(Edge::busy, Edge.ARGUMENT, "costs(3, -1)", x -> x.costs(3, -1));
    }
}
