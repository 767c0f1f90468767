import java.lang.reflect.Field;

/** The sentences of undo and of the exceptions, and the promises 14 and 19. */
final class UndoEdges {
    private UndoEdges() {
    }

    static void all() throws ReflectiveOperationException {
        saves();
        savesCounts();
        savesNoBuffer();
        savesNothingElse();
        sixStates();
        oldestIsDropped();
        refusedCalls();
        namedFirst();
        none();
        undo();
        undoRefused();
        count();
        countEdges();
        countRefused();
    }

    private static void saves() {
        Document.says("Undo", "Each method that is marked \"undoable\" and does not throw an exception saves the state "
                + "from before it (also if it changes nothing):");
        Edge.Use[] undoable = {x -> x.ferry(0, 1, 0, 1, 1, 0), x -> x.drop(0), x -> x.kind(0, 1), x -> x.kind(0, 0),
            x -> x.clock(0, 1), x -> x.clock(0, 0), x -> x.set(0, 1), x -> x.set(0, 0), x -> x.set(1, 30),
            x -> x.place(0, 1, 1, 1), x -> x.place(0, 0, 0, 50), x -> x.rest(0, 1), x -> x.take(0, 0)};
        for (int call = 0; call < undoable.length; call++) {
            Edge.undoable("the undoable call " + call, undoable[call]);
        }
        Edge.undoable("undoable calls that are refused save nothing", x -> {
            Edge.due("refused", 4, refusals(x));
            return x.set(1, 59);
        });
    }

    /** Undoable calls, each of which is refused. */
    private static int refusals(TideFares x) {
        Edge.Use[] refused = {y -> y.kind(0, 3), y -> y.take(0, 3), y -> y.rest(0, 0), TideFares::ferries};
        int thrown = 0;
        for (Edge.Use use : refused) {
            try {
                use.on(x);
            } catch (IllegalArgumentException | IndexOutOfBoundsException e) {
                thrown++;
            }
        }
        return thrown;
    }

    private static void savesCounts() {
        Document.says("Undo", "all, also what is counted so far,");
        TideFares x = Checks.with("ab@10/30+20$5;ba@30/20+10$8");
        x.take(0, 0);
        long before = x.digest();
        x.take(0, 1);
        Edge.due("undo of the second one", 2, x.undo());
        Edge.due("as behind the first one", before, x.digest());
        Edge.due("count(1) of one", 1, x.count(1));
        Edge.due("count(2) of one", 10, x.count(2));
        Edge.due("ferryOf(1, 8)", 0, x.ferryOf(1, 8));
        x.undo();
        Edge.due("count(1) of none", 0, x.count(1));
        Edge.due("count(2) of none", 0, x.count(2));
        Edge.due("count(3) of none", 200, x.count(3));
        Edge.due("ferryOf(0, 8)", 0, x.ferryOf(0, 8));
        Edge.due("traveller(0, 3)", 0, x.traveller(0, 3));
        Edge.due("traveller(0, 4)", 0, x.traveller(0, 4));
        x.drop(0);
        x.undo();
        x.take(0, 0);
        x.drop(0);
        x.undo();
        Edge.due("how often one was taken comes back with it", 1, x.ferryOf(0, 8));
    }

    private static void savesNoBuffer() {
        Document.says("Undo", "but the buffer and the saved states.");
        TideFares x = new TideFares();
        Checks.type(x, "ab@0/1+1$0");
        x.set(0, 1);
        Checks.type(x, ";");
        x.undo();
        Edge.due("the buffer is not shortened", 11, x.firstError());
        x.clearBuffer();
        x.set(0, 2);
        Checks.type(x, "abc");
        x.set(0, 3);
        x.clearBuffer();
        x.undo();
        Edge.due("the buffer does not come back", 0, x.firstError());
        Edge.due("the saved states do not come back", 1, x.count(4));
        x.undo();
        Edge.due("no saved state comes back", 0, x.count(4));
        Edge.due("the text behind it", 1, x.append('a'));
    }

    private static void savesNothingElse() {
        Document.says("Undo", "Each method that is marked \"undoable\"");
        Edge.Use[] others = {x -> x.append(33), TideFares::clearBuffer, TideFares::firstError, x -> x.ferryOf(0, 0),
            x -> x.traveller(0, 0), x -> x.leaves(0, 0), x -> x.costs(0, 0), x -> x.count(4), x -> x.setting(0),
            x -> x.refusal(0, 0), x -> x.soonest(0, 1, 0), x -> x.cheapest(0, 1, 0, 1539), x -> x.reach(0),
            x -> x.lastStart(0, 1, 1539), x -> (long) x.joined(), TideFares::digest};
        for (int call = 0; call < others.length; call++) {
            for (int saved = 0; saved <= 6; saved += 3) {
                TideFares x = Edge.withSaved(saved);
                others[call].on(x);
                Edge.due("the call " + call + ", which is not undoable: count(4)", saved, x.count(4));
            }
        }
    }

    private static void sixStates() {
        Document.says("Undo", "At most 6 states are saved;");
        TideFares x = new TideFares();
        Edge.due("none at first", 0, x.count(4));
        for (int value = 1; value <= 14; value++) {
            x.set(0, value);
            Edge.due("behind " + value + " calls", Math.min(value, 6), x.count(4));
        }
        for (int left = 5; left >= 0; left--) {
            Edge.due("undo", left, x.undo());
            Edge.due("setting(0)", 8 + left, x.setting(0));
        }
        Edge.refused(() -> undone(6, 6), Edge.STATE, "a seventh undo", TideFares::undo);
        Edge.refused(() -> undone(7, 6), Edge.STATE, "a seventh undo behind seven calls", TideFares::undo);
        Edge.refused(() -> undone(5, 5), Edge.STATE, "a sixth undo behind five calls", TideFares::undo);
    }

    /** So many calls, and so many of them undone. */
    private static TideFares undone(int calls, int undone) {
        TideFares x = new TideFares();
        for (int value = 1; value <= calls; value++) {
            x.set(0, value);
        }
        for (int i = 0; i < undone; i++) {
            x.undo();
        }
        return x;
    }

    private static void oldestIsDropped() {
        Document.says("Undo", "the oldest one is dropped first.");
        for (int calls = 5; calls <= 20; calls++) {
            for (int undone = 0; undone <= 5; undone++) {
                TideFares x = undone(calls, undone);
                Edge.due(calls + " calls, " + undone + " undone", calls - undone, x.setting(0));
                for (int more = 1; more <= 6; more++) {
                    x.set(1, more);
                }
                for (int left = 5; left >= 0; left--) {
                    Edge.due("six calls more, undone", left, x.undo());
                    Edge.due("setting(1)", left == 0 ? 30 : left, x.setting(1));
                }
                Edge.due("those from before the six are dropped", calls - undone, x.setting(0));
                Edge.due("no one is left", 0, x.count(4));
            }
        }
        TideFares x = undone(6, 3);
        for (int more = 101; more <= 104; more++) {
            x.set(0, more);
        }
        int[] due = {103, 102, 101, 3, 2, 1};
        for (int i = 0; i < 6; i++) {
            x.undo();
            Edge.due("four calls behind three that are left, undone " + (i + 1), due[i], x.setting(0));
        }
        Edge.due("the state 0 is dropped", 0, x.count(4));
    }

    /** All refused calls on one object in a row. */
    private static void refusedCalls() {
        Document.says("Exceptions", "A call that throws an exception changes nothing.");
        Edge.Use[] refused = {x -> x.ferry(8, 0, 0, 1, 1, 0), x -> x.ferry(0, 0, 0, 1, 1, 0), x -> x.drop(4),
            x -> x.kind(4, 0), x -> x.kind(0, 3), x -> x.clock(4, 0), x -> x.clock(0, 60), x -> x.set(2, 0),
            x -> x.set(0, 720), x -> x.place(4, 0, 0, 0), x -> x.place(0, 0, 1440, 0), x -> x.rest(4, 1),
            x -> x.rest(0, 0), x -> x.rest(1, 720), x -> x.take(0, 4), x -> x.take(3, 1), x -> x.append(32),
            TideFares::ferries, x -> x.ferryOf(4, 0), x -> x.ferryOf(0, 9), x -> x.traveller(4, 0),
            x -> x.traveller(0, 5), x -> x.leaves(4, 0), x -> x.leaves(0, 1540), x -> x.costs(4, 0),
            x -> x.costs(0, 1440), x -> x.count(5), x -> x.setting(2), x -> x.refusal(0, 4), x -> x.soonest(0, 8, 0),
            x -> x.soonest(0, 1, 1440), x -> x.cheapest(8, 0, 0, 0), x -> x.cheapest(0, 1, 0, 1540), x -> x.reach(4),
            x -> x.lastStart(0, 8, 0), x -> x.lastStart(0, 0, 0)};
        Edge.looks(Edge::busy, "all refused calls", x -> {
            int thrown = 0;
            for (Edge.Use use : refused) {
                try {
                    use.on(x);
                } catch (IndexOutOfBoundsException | IllegalArgumentException | IllegalStateException e) {
                    thrown++;
                }
            }
            Edge.due("refused calls", refused.length, thrown);
            return thrown;
        });
    }

    private static void namedFirst() {
        Document.says("Exceptions", "If several exceptions apply, the one that is named first in the throws clause "
                + "is thrown.");
        Edge.refused(Edge::full, Edge.INDEX, "ferry: all three", x -> x.ferry(8, 8, 200, 0, 0, 100));
        Edge.refused(Edge::full, Edge.ARGUMENT, "ferry: the second and third", x -> x.ferry(7, 7, 0, 1, 1, 0));
        Edge.refused(Edge::full, Edge.STATE, "ferry: the third alone", x -> x.ferry(7, 6, 0, 1, 1, 0));
        Edge.refused(Edge::busy, Edge.INDEX, "kind: both", x -> x.kind(4, 3));
        Edge.refused(Edge::busy, Edge.INDEX, "clock: both", x -> x.clock(4, 60));
        Edge.refused(Edge::busy, Edge.INDEX, "set: both", x -> x.set(2, -1));
        Edge.refused(Edge::busy, Edge.INDEX, "place: both", x -> x.place(0, 8, 1440, 1000));
        Edge.refused(UndoEdges::atTheEnd, Edge.INDEX, "rest: the first two", x -> x.rest(4, 721));
        Edge.refused(UndoEdges::atTheEnd, Edge.ARGUMENT, "rest: the second and third", x -> x.rest(0, 721));
        Edge.refused(UndoEdges::atTheEnd, Edge.STATE, "rest: the third alone", x -> x.rest(0, 720));
        Edge.refused(UndoEdges::atTheEnd, Edge.INDEX, "take: a ferry that is none", x -> x.take(0, 4));
        Edge.refused(UndoEdges::atTheEnd, Edge.STATE, "take: from another island", x -> x.take(0, 1));
        Edge.refused(UndoEdges::crowded, Edge.ARGUMENT, "append: both", x -> x.append(127));
        Edge.refused(UndoEdges::crowded, Edge.STATE, "append: the second alone", x -> x.append(126));
        Edge.refused(UndoEdges::crowded, Edge.ARGUMENT, "ferries: both", TideFares::ferries);
        Edge.refused(Edge::busy, Edge.INDEX, "ferryOf: both", x -> x.ferryOf(4, 9));
        Edge.refused(Edge::busy, Edge.INDEX, "traveller: both", x -> x.traveller(4, 5));
        Edge.refused(Edge::busy, Edge.INDEX, "leaves: both", x -> x.leaves(4, 1540));
        Edge.refused(Edge::busy, Edge.INDEX, "costs: both", x -> x.costs(4, 1440));
        Edge.refused(Edge::busy, Edge.INDEX, "soonest: both", x -> x.soonest(0, 8, 1440));
        Edge.refused(Edge::busy, Edge.INDEX, "cheapest: both", x -> x.cheapest(0, 8, 9, 8));
        Edge.refused(Edge::busy, Edge.INDEX, "lastStart: both", x -> x.lastStart(8, 8, 1540));
    }

    /** A traveller at the minute 1439, on an island from which the ferry 1 does not go. */
    private static TideFares atTheEnd() {
        TideFares x = Edge.busy();
        x.place(0, 0, 1439, 999);
        return x;
    }

    /** 14 ferries, and 60 characters that tell more of them, but not whole. */
    private static TideFares crowded() {
        TideFares x = Edge.full();
        Checks.type(x, "ab@0/1+1$0;ab@0/1+1$0;ab@0/1+1$0;ab@0/1+1$0;ab@0/1+1$0;ab@0/");
        return x;
    }

    private static void none() throws ReflectiveOperationException {
        Document.says("Exceptions", "The constants: `NONE = -1`: There is nothing to return.");
        Field none = TideFares.class.getField("NONE");
        Edge.due("NONE", -1, none.getInt(null));
        TideFares x = Checks.with("ab@0/199+1$0");
        Edge.due("leaves: NONE", -1, x.leaves(0, 1394));
        Edge.due("soonest: NONE", -1, x.soonest(1, 0, 0));
        Edge.due("cheapest: NONE", -1, x.cheapest(1, 0, 0, 1539));
        Edge.due("lastStart: NONE", -1, x.lastStart(1, 0, 1539));
    }

    private static void undo() {
        Document.says("Promise 14", "Restores the latest saved state, and drops it.");
        Document.says("Promise 14", "Returns how many saved states are left.");
        TideFares x = new TideFares();
        x.set(0, 11);
        x.set(0, 22);
        x.set(0, 33);
        int[] due = {22, 11, 0};
        for (int left = 2; left >= 0; left--) {
            Edge.due("undo()", left, x.undo());
            Edge.due("count(4)", left, x.count(4));
            Edge.due("setting(0)", due[2 - left], x.setting(0));
        }
        x.set(0, 44);
        x.set(0, 55);
        Edge.due("undo of 55", 1, x.undo());
        Edge.due("undo of 55: setting(0)", 44, x.setting(0));
        x.set(0, 66);
        Edge.due("undo of 66", 1, x.undo());
        Edge.due("undo of 66: setting(0)", 44, x.setting(0));
        Edge.due("undo of 44", 0, x.undo());
        Edge.due("undo of 44: setting(0)", 0, x.setting(0));
        Edge.due("undo of the sixth", 5, undone(6, 0).undo());
        Edge.due("undo of the seventh", 5, undone(7, 0).undo());
        TideFares full = Edge.full();
        full.drop(3);
        Edge.due("undo of a drop of 14", 5, full.undo());
        Edge.due("undo of a drop of 14: count(0)", 14, full.count(0));
        for (int ferry = 0; ferry < 14; ferry++) {
            Edge.due("undo of a drop of 14: ferryOf(" + ferry + ", 2)", 20 + ferry, full.ferryOf(ferry, 2));
        }
    }

    private static void undoRefused() {
        Document.says("Promise 14", "Throws `IllegalStateException` if there is none");
        Edge.refused(TideFares::new, Edge.STATE, "undo of a new object", TideFares::undo);
        Edge.refused(() -> undone(1, 1), Edge.STATE, "undo twice behind one call", TideFares::undo);
        Edge.refused(() -> {
            TideFares x = new TideFares();
            Checks.type(x, "ab@0/1+1$0");
            return x;
        }, Edge.STATE, "undo behind calls that save nothing", TideFares::undo);
        Edge.due("undo behind one call", 0, undone(1, 0).undo());
    }

    private static void count() {
        Document.says("Promise 19", "Returns a number.", "Returns the number.");
        Document.says("Promise 19", "- `what`: 0: ferries; 1: ferries taken so far, by all; 2: coins paid so far; "
                + "3: all purses together; 4: saved states");
        int[] due = {4, 2, 208, 941, 6};
        for (int what = 0; what < 5; what++) {
            int asked = what;
            Edge.due("count(" + what + ")", due[what], Edge.busy().count(what));
            Edge.looks(Edge::busy, "count(" + what + ")", x -> x.count(asked));
        }
        Edge.range(Edge::busy, Edge.ARGUMENT, "count", 0, 4, (x, what) -> {
            x.count(what);
            return what;
        });
    }

    private static void countEdges() {
        Document.says("Promise 19", "1: ferries taken so far, by all; 2: coins paid so far; 3: all purses together; 4: "
                + "saved states");
        TideFares x = Checks.with("ab@0/1+1$99;ba@0/1+1$99");
        for (int traveller = 0; traveller < 4; traveller++) {
            x.place(traveller, 0, 0, 999);
            Edge.due("full purses", 150 - 50 * traveller + 999 * (traveller + 1), x.count(3));
        }
        for (int traveller = 0; traveller < 4; traveller++) {
            x.take(traveller, 0);
            Edge.due("taken by all", traveller + 1, x.count(1));
            Edge.due("paid by all", 198 * (traveller + 1), x.count(2));
        }
        Edge.due("what is paid is not in the purses", 4 * 999 - 4 * 198, x.count(3));
        x.take(2, 1);
        Edge.due("taken by one of them again", 5, x.count(1));
        x.drop(0);
        x.drop(0);
        Edge.due("no ferry", 0, x.count(0));
        Edge.due("taken by all stays", 5, x.count(1));
        Edge.due("paid by all stays", 990, x.count(2));
        for (int traveller = 0; traveller < 4; traveller++) {
            x.place(traveller, 0, 0, 0);
        }
        Edge.due("empty purses", 0, x.count(3));
        Edge.due("14 ferries", 14, Edge.full().count(0));
        for (int saved = 0; saved <= 6; saved++) {
            Edge.due("saved states", saved, Edge.withSaved(saved).count(4));
        }
        Edge.due("saved states behind a seventh", 6, undone(7, 0).count(4));
    }

    private static void countRefused() {
        Document.says("Promise 19", "Throws `IllegalArgumentException` if what is not 0 to 4");
        Edge.refused(Edge::busy, Edge.ARGUMENT, "count(5)", x -> x.count(5));
        Edge.refused(Edge::busy, Edge.ARGUMENT, "count(-1)", x -> x.count(-1));
        Edge.refused(TideFares::new, Edge.ARGUMENT, "count(5) of a new object", x -> x.count(5));
    }
}
