/** Promises 1 to 6, 15, 17, 18 and 20: ferries, what they do by their clocks, and settings. */
public final class FerriesTest {
    public static void main(String[] args) {
        newObject();
        ferry();
        ferryRefused();
        drop();
        kind();
        clock();
        set();
        ferryOf();
        leaves();
        leavesByTide();
        costs();
        Checks.end("FerriesTest");
    }

    private static void newObject() {
        TideFares x = new TideFares();
        int[] counts = {0, 0, 0, 200, 0};
        for (int what = 0; what < 5; what++) {
            Checks.due("new: count(" + what + ")", counts[what], x.count(what));
        }
        int[] numbers = {0, 0, 50, 0, 0};
        for (int traveller = 0; traveller < 4; traveller++) {
            for (int what = 0; what < 5; what++) {
                Checks.due("new: traveller(" + traveller + ", " + what + ")", numbers[what],
                        x.traveller(traveller, what));
            }
            Checks.due("new: reach(" + traveller + ")", 1, x.reach(traveller));
        }
        Checks.due("new: setting(0)", 0, x.setting(0));
        Checks.due("new: setting(1)", 30, x.setting(1));
        Checks.due("new: clearBuffer()", 0, x.clearBuffer());
        Checks.due("new: firstError()", 0, x.firstError());
        Checks.due("NONE", -1, TideFares.NONE);
        Checks.noState(x, "new: undo()", x::undo);
    }

    private static void ferry() {
        TideFares x = new TideFares();
        Checks.due("ferry: the first", 0, x.ferry(0, 7, 0, 1, 1, 0));
        Checks.due("ferry: the second", 1, x.ferry(7, 0, 199, 199, 99, 99));
        int[] first = {0, 7, 0, 1, 1, 0, 0, 0, 0};
        int[] second = {7, 0, 199, 199, 99, 99, 0, 0, 0};
        for (int what = 0; what < 9; what++) {
            Checks.due("ferryOf(0, " + what + ")", first[what], x.ferryOf(0, what));
            Checks.due("ferryOf(1, " + what + ")", second[what], x.ferryOf(1, what));
        }
        for (int ferry = 2; ferry < 14; ferry++) {
            Checks.due("ferry " + ferry, ferry, x.ferry(1, 2, 3, 4, 5, 6));
        }
        Checks.due("count(0) of all", 14, x.count(0));
        Checks.noState(x, "ferry: the fifteenth", () -> x.ferry(1, 2, 3, 4, 5, 6));
        Checks.noArgument(x, "ferry: the fifteenth, with a wrong fare", () -> x.ferry(1, 2, 3, 4, 5, 100));
        Checks.noIndex(x, "ferry: the fifteenth, from nowhere", () -> x.ferry(8, 2, 3, 4, 5, 100));
        x.drop(13);
        Checks.due("ferry: the fourteenth again", 13, x.ferry(1, 2, 3, 4, 5, 6));
    }

    private static void ferryRefused() {
        TideFares x = new TideFares();
        Checks.noIndex(x, "ferry: from -1", () -> x.ferry(-1, 1, 0, 1, 1, 0));
        Checks.noIndex(x, "ferry: from 8", () -> x.ferry(8, 1, 0, 1, 1, 0));
        Checks.noIndex(x, "ferry: to -1", () -> x.ferry(0, -1, 0, 1, 1, 0));
        Checks.noIndex(x, "ferry: to 8", () -> x.ferry(0, 8, 0, 1, 1, 0));
        Checks.noIndex(x, "ferry: to 8, and a wrong first", () -> x.ferry(0, 8, 200, 1, 1, 0));
        Checks.noIndex(x, "ferry: from and to 8", () -> x.ferry(8, 8, 0, 1, 1, 0));
        Checks.noIndex(x, "ferry: to the greatest int", () -> x.ferry(0, Integer.MAX_VALUE, 0, 1, 1, 0));
        Checks.noArgument(x, "ferry: from 3 to 3", () -> x.ferry(3, 3, 0, 1, 1, 0));
        Checks.noArgument(x, "ferry: first -1", () -> x.ferry(0, 1, -1, 1, 1, 0));
        Checks.noArgument(x, "ferry: first 200", () -> x.ferry(0, 1, 200, 1, 1, 0));
        Checks.noArgument(x, "ferry: interval 0", () -> x.ferry(0, 1, 0, 0, 1, 0));
        Checks.noArgument(x, "ferry: interval 200", () -> x.ferry(0, 1, 0, 200, 1, 0));
        Checks.noArgument(x, "ferry: needs 0", () -> x.ferry(0, 1, 0, 1, 0, 0));
        Checks.noArgument(x, "ferry: needs 100", () -> x.ferry(0, 1, 0, 1, 100, 0));
        Checks.noArgument(x, "ferry: fare -1", () -> x.ferry(0, 1, 0, 1, 1, -1));
        Checks.noArgument(x, "ferry: fare 100", () -> x.ferry(0, 1, 0, 1, 1, 100));
    }

    private static void drop() {
        TideFares x = Checks.with("ab@0/1+1$0;bc@1/2+3$4^;cd@2/3+4$5_");
        x.clock(2, 17);
        x.clock(0, 3);
        x.place(0, 2, 0, 50);
        x.take(0, 2);
        x.take(1, 0);
        Checks.due("drop(1)", 2, x.drop(1));
        Checks.due("drop: count(0)", 2, x.count(0));
        int[] moved = {2, 3, 2, 3, 4, 5, 2, 17, 1};
        for (int what = 0; what < 9; what++) {
            Checks.due("drop: ferryOf(1, " + what + ")", moved[what], x.ferryOf(1, what));
        }
        Checks.due("drop: the one ahead stays", 1, x.ferryOf(0, 1));
        Checks.noIndex(x, "drop(2) of two", () -> x.drop(2));
        Checks.noIndex(x, "drop(-1)", () -> x.drop(-1));
        Checks.due("drop(1), the last one", 1, x.drop(1));
        Checks.due("drop: what was taken stays counted", 2, x.count(1));
        Checks.due("drop(0), the only one", 0, x.drop(0));
        Checks.noIndex(x, "drop(0) of none", () -> x.drop(0));
        Checks.due("ferry behind drops", 0, x.ferry(0, 1, 0, 1, 1, 1));
        Checks.due("ferry behind drops: not taken", 0, x.ferryOf(0, 8));
        Checks.due("ferry behind drops: its kind", 0, x.ferryOf(0, 6));
        Checks.due("ferry behind drops: its clock", 0, x.ferryOf(0, 7));
        TideFares full = new TideFares();
        for (int ferry = 0; ferry < 14; ferry++) {
            full.ferry(0, 1, ferry, 1, 1, ferry);
        }
        Checks.due("drop(7) of 14", 13, full.drop(7));
        for (int ferry = 0; ferry < 13; ferry++) {
            Checks.due("drop(7) of 14: ferryOf(" + ferry + ", 2)", ferry < 7 ? ferry : ferry + 1, full.ferryOf(ferry, 2));
        }
        full.undo();
        Checks.due("drop(0) of 14", 13, full.drop(0));
        Checks.due("drop(0) of 14: the last one", 13, full.ferryOf(12, 2));
        Checks.noIndex(full, "ferryOf(13, 0) of 13", () -> full.ferryOf(13, 0));
    }

    private static void kind() {
        TideFares x = Checks.with("ab@0/1+1$0;bc@0/1+1$0_");
        Checks.due("kind(0, 1)", 0, x.kind(0, 1));
        Checks.due("kind(0, 2)", 1, x.kind(0, 2));
        Checks.due("kind(1, 0)", 2, x.kind(1, 0));
        Checks.due("kind: ferryOf(0, 6)", 2, x.ferryOf(0, 6));
        Checks.due("kind: ferryOf(1, 6)", 0, x.ferryOf(1, 6));
        Checks.noIndex(x, "kind(2, 0)", () -> x.kind(2, 0));
        Checks.noIndex(x, "kind(-1, 3)", () -> x.kind(-1, 3));
        Checks.noArgument(x, "kind(0, -1)", () -> x.kind(0, -1));
        Checks.noArgument(x, "kind(0, 3)", () -> x.kind(0, 3));
    }

    private static void clock() {
        TideFares x = Checks.with("ab@0/1+1$0;bc@0/1+1$0_");
        Checks.due("clock(1, 59)", 0, x.clock(1, 59));
        Checks.due("clock(1, 0)", 59, x.clock(1, 0));
        Checks.due("clock(0, 7)", 0, x.clock(0, 7));
        Checks.due("clock: ferryOf(0, 7)", 7, x.ferryOf(0, 7));
        Checks.due("clock: ferryOf(1, 7)", 0, x.ferryOf(1, 7));
        Checks.due("clock: it leaves as before", 5, x.leaves(0, 5));
        Checks.noIndex(x, "clock(2, 0)", () -> x.clock(2, 0));
        Checks.noIndex(x, "clock(-1, 60)", () -> x.clock(-1, 60));
        Checks.noArgument(x, "clock(0, -1)", () -> x.clock(0, -1));
        Checks.noArgument(x, "clock(0, 60)", () -> x.clock(0, 60));
    }

    private static void set() {
        TideFares x = new TideFares();
        Checks.due("set(0, 719)", 0, x.set(0, 719));
        Checks.due("set(1, 60)", 30, x.set(1, 60));
        Checks.due("set(0, 0)", 719, x.set(0, 0));
        Checks.due("set(1, 0)", 60, x.set(1, 0));
        Checks.due("setting(1)", 0, x.setting(1));
        x.set(0, 5);
        Checks.due("setting(0)", 5, x.setting(0));
        Checks.noIndex(x, "set(-1, 0)", () -> x.set(-1, 0));
        Checks.noIndex(x, "set(2, 1000)", () -> x.set(2, 1000));
        Checks.noArgument(x, "set(0, -1)", () -> x.set(0, -1));
        Checks.noArgument(x, "set(0, 720)", () -> x.set(0, 720));
        Checks.noArgument(x, "set(1, -1)", () -> x.set(1, -1));
        Checks.noArgument(x, "set(1, 61)", () -> x.set(1, 61));
        Checks.noIndex(x, "setting(-1)", () -> x.setting(-1));
        Checks.noIndex(x, "setting(2)", () -> x.setting(2));
    }

    private static void ferryOf() {
        TideFares x = Checks.with("gh@12/34+56$78_");
        x.place(1, 6, 400, 999);
        x.take(1, 0);
        x.place(1, 6, 400, 999);
        x.take(1, 0);
        int[] due = {6, 7, 12, 34, 56, 78, 2, 0, 2};
        for (int what = 0; what < 9; what++) {
            Checks.due("ferryOf(0, " + what + ")", due[what], x.ferryOf(0, what));
        }
        Checks.noIndex(x, "ferryOf(1, 0)", () -> x.ferryOf(1, 0));
        Checks.noIndex(x, "ferryOf(-1, 9)", () -> x.ferryOf(-1, 9));
        Checks.noArgument(x, "ferryOf(0, -1)", () -> x.ferryOf(0, -1));
        Checks.noArgument(x, "ferryOf(0, 9)", () -> x.ferryOf(0, 9));
    }

    private static void leaves() {
        TideFares x = Checks.with("ab@10/30+1$0;ab@199/199+1$0;ab@0/1+1$0;ab@9/11+1$0");
        Checks.due("leaves(0, 0)", 10, x.leaves(0, 0));
        Checks.due("leaves(0, 10)", 10, x.leaves(0, 10));
        Checks.due("leaves(0, 11)", 40, x.leaves(0, 11));
        Checks.due("leaves(0, 1420)", 1420, x.leaves(0, 1420));
        Checks.due("leaves(0, 1421)", -1, x.leaves(0, 1421));
        Checks.due("leaves(1, 0)", 199, x.leaves(1, 0));
        Checks.due("leaves(1, 200)", 398, x.leaves(1, 200));
        Checks.due("leaves(1, 1394)", -1, x.leaves(1, 1394));
        Checks.due("leaves(1, 1393)", 1393, x.leaves(1, 1393));
        Checks.due("leaves(2, 1439)", 1439, x.leaves(2, 1439));
        Checks.due("leaves(2, 1440)", -1, x.leaves(2, 1440));
        Checks.due("leaves(2, 1539)", -1, x.leaves(2, 1539));
        Checks.due("leaves(3, 1430)", 1439, x.leaves(3, 1430));
        Checks.noIndex(x, "leaves(4, 0)", () -> x.leaves(4, 0));
        Checks.noIndex(x, "leaves(-1, -1)", () -> x.leaves(-1, -1));
        Checks.noArgument(x, "leaves(0, -1)", () -> x.leaves(0, -1));
        Checks.noArgument(x, "leaves(0, 1540)", () -> x.leaves(0, 1540));
    }

    private static void leavesByTide() {
        TideFares x = Checks.with("ab@0/7+1$0^;ab@0/7+1$0_;ab@150/199+1$0_;ab@0/1+1$0^");
        Checks.due("high tide: at 0", 0, x.leaves(0, 0));
        Checks.due("high tide: 357 is the last one", 357, x.leaves(0, 351));
        Checks.due("high tide: 721 is the next one", 721, x.leaves(0, 358));
        Checks.due("high tide: at 1078", 1078, x.leaves(0, 1072));
        Checks.due("high tide: none behind 1078", -1, x.leaves(0, 1079));
        Checks.due("low tide: 364 is the first one", 364, x.leaves(1, 0));
        Checks.due("low tide: 714 is the last one", 714, x.leaves(1, 708));
        Checks.due("low tide: 1085 is the next one", 1085, x.leaves(1, 715));
        Checks.due("low tide, a long interval", 548, x.leaves(2, 0));
        Checks.due("high tide, each minute: 359", 359, x.leaves(3, 359));
        Checks.due("high tide, each minute: 360", 720, x.leaves(3, 360));
        x.set(0, 719);
        Checks.due("tide 719: low at 0", 1, x.leaves(3, 0));
        Checks.due("tide 719: high at 360", 360, x.leaves(3, 360));
        Checks.due("tide 719: low at 361", 721, x.leaves(3, 361));
        x.set(0, 360);
        Checks.due("tide 360: low at first", 360, x.leaves(3, 0));
        Checks.due("tide 360: the low one leaves at 0", 0, x.leaves(1, 0));
    }

    private static void costs() {
        TideFares x = Checks.with("ab@10/30+1$7;ab@10/30+1$99;ab@10/30+1$0");
        Checks.due("costs(0, 0)", 14, x.costs(0, 0));
        Checks.due("costs(0, 29)", 14, x.costs(0, 29));
        Checks.due("costs(0, 30)", 7, x.costs(0, 30));
        Checks.due("costs(0, 59)", 7, x.costs(0, 59));
        Checks.due("costs(0, 60)", 14, x.costs(0, 60));
        Checks.due("costs(0, 1439)", 7, x.costs(0, 1439));
        Checks.due("costs(1, 5)", 198, x.costs(1, 5));
        Checks.due("costs(2, 5)", 0, x.costs(2, 5));
        x.clock(0, 20);
        Checks.due("clock 20: costs(0, 9)", 14, x.costs(0, 9));
        Checks.due("clock 20: costs(0, 10)", 7, x.costs(0, 10));
        Checks.due("clock 20: costs(0, 39)", 7, x.costs(0, 39));
        Checks.due("clock 20: costs(0, 40)", 14, x.costs(0, 40));
        Checks.due("clock 20: the other clock", 198, x.costs(1, 10));
        x.set(1, 0);
        Checks.due("never dear", 7, x.costs(0, 40));
        x.set(1, 60);
        Checks.due("always dear", 14, x.costs(0, 39));
        Checks.noIndex(x, "costs(3, 0)", () -> x.costs(3, 0));
        Checks.noIndex(x, "costs(-1, 1440)", () -> x.costs(-1, 1440));
        Checks.noArgument(x, "costs(0, -1)", () -> x.costs(0, -1));
        Checks.noArgument(x, "costs(0, 1440)", () -> x.costs(0, 1440));
    }
}
