/** The sentences of the travellers, and the promises 7 to 9, 16 and 21. */
final class TravellerEdges {
    private TravellerEdges() {
    }

    static void all() {
        fourTravellers();
        atFirst();
        minuteOfTheirOwn();
        waitsAndPays();
        reasons();
        emptyPurse();
        place();
        placeRefused();
        rest();
        restRefused();
        take();
        takeRefused();
        traveller();
        travellerRefused();
        refusal();
        refusalRefused();
    }

    private static void fourTravellers() {
        Document.says("Travellers", "There are 4 travellers, numbered from 0;");
        Edge.range(Edge::busy, Edge.INDEX, "a traveller", 0, 3, (x, traveller) -> {
            x.place(traveller, traveller + 4, traveller, traveller);
            return x.traveller(traveller, 2);
        });
        TideFares x = new TideFares();
        for (int traveller = 0; traveller < 4; traveller++) {
            x.place(traveller, traveller + 4, traveller, 100 + traveller);
        }
        for (int traveller = 0; traveller < 4; traveller++) {
            Edge.due("the island of " + traveller, traveller + 4, x.traveller(traveller, 0));
            Edge.due("the purse of " + traveller, 100 + traveller, x.traveller(traveller, 2));
        }
    }

    private static void atFirst() {
        Document.says("Travellers", "each is on an island, at first 0, at a minute of their own, 0 to 1539, "
                + "at first 0, with a purse, 0 to 999, at first 50.");
        TideFares x = new TideFares();
        int[] due = {0, 0, 50, 0, 0};
        for (int traveller = 0; traveller < 4; traveller++) {
            for (int what = 0; what < 5; what++) {
                Edge.due("at first: traveller(" + traveller + ", " + what + ")", due[what],
                        x.traveller(traveller, what));
            }
        }
        x.ferry(0, 1, 0, 1, 1, 25);
        x.ferry(0, 1, 0, 1, 1, 26);
        Edge.due("the first purse does for 50", 0, x.refusal(0, 0));
        Edge.due("the first purse does not do for 52", 3, x.refusal(0, 1));
    }

    /** No ferry leaves behind 1439 or needs more than 99 minutes, so 1538 is the greatest one that there is. */
    private static void minuteOfTheirOwn() {
        Document.says("Travellers", "at a minute of their own, 0 to 1539,");
        TideFares x = Checks.with("ab@0/1+99$0;ba@0/1+1$0");
        x.place(0, 0, 1438, 999);
        x.place(1, 0, 1439, 0);
        Edge.due("comes from 1438", 1537, x.take(0, 0));
        Edge.due("comes from 1439", 1538, x.take(1, 0));
        Edge.due("traveller(1, 1)", 1538, x.traveller(1, 1));
        Edge.due("one behind the last ferry stays", 2, x.refusal(1, 1));
        Edge.due("one behind the last ferry reaches the island itself", 2, x.reach(1));
        Edge.due("the others have their own minutes", 0, x.traveller(2, 1));
        Edge.due("back from 1538", 0, x.place(1, 0, 0, 999));
        Edge.due("back at 0", 99, x.take(1, 0));
    }

    private static void waitsAndPays() {
        Document.says("Travellers", "To take a ferry a traveller waits till it leaves for the first time "
                + "from their minute on, pays what it costs then, and is on the other island when it has come.");
        TideFares x = Checks.with("ab@29/31+20$5;ab@0/1+1$0^");
        int[][] minuteComesPaid = {{0, 49, 10}, {28, 49, 10}, {29, 49, 10}, {30, 80, 10}, {60, 80, 10},
            {61, 111, 5}, {91, 111, 5}, {92, 142, 10}, {1393, 1413, 10}, {1394, 1444, 5}, {1424, 1444, 5}};
        for (int[] due : minuteComesPaid) {
            x.place(0, 0, due[0], 20);
            int paid = x.traveller(0, 4);
            Edge.due("taken from " + due[0], due[1], x.take(0, 0));
            Edge.due("taken from " + due[0] + ": the minute", due[1], x.traveller(0, 1));
            Edge.due("taken from " + due[0] + ": the island", 1, x.traveller(0, 0));
            Edge.due("taken from " + due[0] + ": the purse", 20 - due[2], x.traveller(0, 2));
            Edge.due("taken from " + due[0] + ": paid so far", paid + due[2], x.traveller(0, 4));
        }
        x.place(0, 0, 1425, 999);
        Edge.due("from 1425 it has left", 2, x.refusal(0, 0));
        x.place(1, 0, 359, 0);
        x.place(2, 0, 360, 0);
        Edge.due("waits for no tide", 360, x.take(1, 1));
        Edge.due("waits for the tide", 721, x.take(2, 1));
    }

    /** Each reason alone, and each that stands ahead of others. */
    private static void reasons() {
        Document.says("Travellers", "A traveller cannot take a ferry, for the first of these reasons that applies: "
                + "1: it goes from another island; 2: it does not leave any more; 3: the purse does not do.");
        TideFares x = Checks.with("ab@0/1+1$50;ab@0/199+1$50");
        x.set(1, 0);
        int[][] islandMinutePurse = {{0, 59, 50}, {7, 59, 50}, {0, 1394, 100}, {0, 59, 49}, {7, 1394, 100},
            {7, 59, 49}, {0, 1394, 0}, {7, 1394, 0}};
        int[] everyMinute = {0, 1, 0, 3, 1, 1, 3, 1};
        int[] longIntervals = {0, 1, 2, 3, 1, 1, 2, 1};
        for (int i = 0; i < islandMinutePurse.length; i++) {
            int[] where = islandMinutePurse[i];
            x.place(0, where[0], where[1], where[2]);
            String at = " on " + where[0] + " at " + where[1] + " with " + where[2];
            Edge.due("each minute:" + at, everyMinute[i], x.refusal(0, 0));
            Edge.due("each 199 minutes:" + at, longIntervals[i], x.refusal(0, 1));
        }
        x.place(0, 0, 1393, 100);
        Edge.due("it leaves at 1393 for the last time", 0, x.refusal(0, 1));
        x.place(0, 0, 1394, 100);
        Edge.due("it leaves at 1393 for the last time, not at 1394", 2, x.refusal(0, 1));
        x.place(0, 1, 0, 999);
        Edge.due("on the island to which it goes", 1, x.refusal(0, 0));
    }

    private static void emptyPurse() {
        Document.says("Travellers", "with a purse, 0 to 999,");
        TideFares x = Checks.with("ab@0/1+1$0;ab@0/1+1$1;bc@0/1+1$0;bc@0/1+1$99");
        x.place(0, 0, 0, 0);
        Edge.due("an empty purse does without a fare", 0, x.refusal(0, 0));
        Edge.due("an empty purse does not do for 2", 3, x.refusal(0, 1));
        Edge.due("reach with an empty purse", 7, x.reach(0));
        Edge.due("taken with an empty purse", 1, x.take(0, 0));
        Edge.due("it is empty still", 0, x.traveller(0, 2));
        Edge.due("taken again", 2, x.take(0, 2));
        Edge.due("nothing is paid", 0, x.traveller(0, 4));
        Edge.due("two are taken", 2, x.traveller(0, 3));
        x.place(1, 0, 0, 1);
        Edge.due("a purse of 1 does not do for 2", 3, x.refusal(1, 1));
        x.place(1, 0, 0, 2);
        Edge.due("a purse of 2 does", 1, x.take(1, 1));
        Edge.due("a purse of 2 is empty then", 0, x.traveller(1, 2));
        x.place(2, 1, 0, 197);
        x.place(3, 1, 0, 198);
        Edge.due("a purse of 197 does not do for 198", 3, x.refusal(2, 3));
        Edge.due("a purse of 198 does", 1, x.take(3, 3));
        Edge.due("all purses", 197, x.count(3));
    }

    private static void place() {
        Document.says("Promise 7", "Puts a traveller somewhere; what was taken and paid so far stays counted.");
        TideFares x = Checks.with("ab@0/10+5$3");
        x.take(3, 0);
        Document.says("Promise 7", "Returns the previous purse.");
        Edge.due("place(3, 7, 1439, 999)", 44, x.place(3, 7, 1439, 999));
        int[] due = {7, 1439, 999, 1, 6};
        for (int what = 0; what < 5; what++) {
            Edge.due("traveller(3, " + what + ")", due[what], x.traveller(3, what));
        }
        Edge.due("count(1)", 1, x.count(1));
        Edge.due("count(2)", 6, x.count(2));
        Edge.due("ferryOf(0, 8)", 1, x.ferryOf(0, 8));
        Edge.due("place(3, 0, 0, 0)", 999, x.place(3, 0, 0, 0));
        Edge.due("place(3, 0, 0, 50)", 0, x.place(3, 0, 0, 50));
        Document.says("Promise 7", "Undoable.");
        Edge.undoable("place", y -> y.place(0, 7, 1439, 999));
        Edge.undoable("place as it is", y -> y.place(0, 0, 0, 50));
        Document.says("Promise 7", "- `traveller`: 0 to 3");
        Edge.range(Edge::busy, Edge.INDEX, "place: a traveller", 0, 3, (y, traveller) -> {
            y.place(traveller, 6, 0, 900 + traveller);
            return y.traveller(traveller, 2) - 900;
        });
        Document.says("Promise 7", "- `island`: 0 to 7");
        Edge.range(Edge::busy, Edge.INDEX, "place: an island", 0, 7, (y, island) -> {
            y.place(3, island, 0, 0);
            return y.traveller(3, 0);
        });
        Document.says("Promise 7", "- `minute`: 0 to 1439");
        Edge.range(Edge::busy, Edge.ARGUMENT, "place: a minute", 0, 1439, (y, minute) -> {
            y.place(3, 0, minute, 0);
            return y.traveller(3, 1);
        });
        Document.says("Promise 7", "- `purse`: 0 to 999");
        Edge.range(Edge::busy, Edge.ARGUMENT, "place: a purse", 0, 999, (y, purse) -> {
            y.place(3, 0, 0, purse);
            return y.traveller(3, 2);
        });
    }

    private static void placeRefused() {
        Document.says("Promise 7", "Throws `IndexOutOfBoundsException` if there is no such traveller or island");
        Edge.refused(Edge::busy, Edge.INDEX, "place(4, 0, 0, 0)", x -> x.place(4, 0, 0, 0));
        Edge.refused(Edge::busy, Edge.INDEX, "place(0, 8, 0, 0)", x -> x.place(0, 8, 0, 0));
        Edge.refused(Edge::busy, Edge.INDEX, "place(-1, 8, 0, 0)", x -> x.place(-1, 8, 0, 0));
        Edge.refused(Edge::busy, Edge.INDEX, "place(-1, 0, 1440, 0)", x -> x.place(-1, 0, 1440, 0));
        Edge.refused(Edge::busy, Edge.INDEX, "place(4, 0, 0, 1000)", x -> x.place(4, 0, 0, 1000));
        Edge.refused(Edge::busy, Edge.INDEX, "place(0, -1, -1, 0)", x -> x.place(0, -1, -1, 0));
        Edge.refused(Edge::busy, Edge.INDEX, "place(0, 8, 0, -1)", x -> x.place(0, 8, 0, -1));
        Document.says("Promise 7", "Throws `IllegalArgumentException` if minute or purse is out of range");
        Edge.refused(Edge::busy, Edge.ARGUMENT, "place(0, 0, 1440, 0)", x -> x.place(0, 0, 1440, 0));
        Edge.refused(Edge::busy, Edge.ARGUMENT, "place(0, 0, 0, 1000)", x -> x.place(0, 0, 0, 1000));
        Edge.refused(Edge::busy, Edge.ARGUMENT, "place(0, 0, -1, -1)", x -> x.place(0, 0, -1, -1));
    }

    private static void rest() {
        Document.says("Promise 8", "Lets a traveller wait.");
        TideFares x = Checks.with("ab@0/1+99$0");
        Document.says("Promise 8", "Returns the minute then.");
        Edge.due("rest(1, 1)", 1, x.rest(1, 1));
        Edge.due("rest(1, 719)", 720, x.rest(1, 719));
        Edge.due("rest(1, 718)", 1438, x.rest(1, 718));
        Edge.due("rest(1, 1) to the last minute", 1439, x.rest(1, 1));
        int[] due = {0, 1439, 50, 0, 0};
        for (int what = 0; what < 5; what++) {
            Edge.due("traveller(1, " + what + ")", due[what], x.traveller(1, what));
        }
        Edge.due("the others do not wait", 0, x.traveller(0, 1));
        Document.says("Promise 8", "Undoable.");
        Edge.undoable("rest", y -> y.rest(0, 720));
        Document.says("Promise 8", "- `traveller`: 0 to 3");
        Edge.range(TideFares::new, Edge.INDEX, "rest: a traveller", 0, 3, (y, traveller) -> {
            y.rest(traveller, 1);
            return y.traveller(traveller, 1) == 1 ? traveller : -1;
        });
        Document.says("Promise 8", "- `minutes`: 1 to 720");
        Edge.range(Edge::busy, Edge.ARGUMENT, "rest: minutes", 1, 720, (y, minutes) -> y.rest(2, minutes));
    }

    /** A traveller at this minute. */
    private static TideFares at(int minute) {
        TideFares x = Edge.busy();
        x.place(2, 0, minute, 50);
        return x;
    }

    /** A traveller who came at 1538. */
    private static TideFares behindAll() {
        TideFares x = Checks.with("ab@0/1+99$0");
        x.place(2, 0, 1439, 50);
        x.take(2, 0);
        return x;
    }

    private static void restRefused() {
        Document.says("Promise 8", "Throws `IndexOutOfBoundsException` if there is no such traveller");
        Edge.refused(Edge::busy, Edge.INDEX, "rest(4, 1)", x -> x.rest(4, 1));
        Edge.refused(Edge::busy, Edge.INDEX, "rest(-1, 1)", x -> x.rest(-1, 1));
        Edge.refused(Edge::busy, Edge.INDEX, "rest(4, 0)", x -> x.rest(4, 0));
        Edge.refused(Edge::busy, Edge.INDEX, "rest(-1, 721)", x -> x.rest(-1, 721));
        Document.says("Promise 8", "Throws `IllegalArgumentException` if minutes is out of range");
        Edge.refused(Edge::busy, Edge.ARGUMENT, "rest(0, 0)", x -> x.rest(0, 0));
        Edge.refused(Edge::busy, Edge.ARGUMENT, "rest(0, 721)", x -> x.rest(0, 721));
        Edge.refused(() -> at(1439), Edge.ARGUMENT, "rest(2, 721) at 1439", x -> x.rest(2, 721));
        Edge.refused(() -> at(1439), Edge.ARGUMENT, "rest(2, greatest int) at 1439",
                x -> x.rest(2, Integer.MAX_VALUE));
        Edge.refused(TravellerEdges::behindAll, Edge.ARGUMENT, "rest(2, 0) at 1538", x -> x.rest(2, 0));
        Document.says("Promise 8", "Throws `IllegalStateException` if it would be behind the minute 1439");
        Edge.due("rest(2, 1) at 1438", 1439, at(1438).rest(2, 1));
        Edge.due("rest(2, 719) at 720", 1439, at(720).rest(2, 719));
        Edge.due("rest(2, 720) at 719", 1439, at(719).rest(2, 720));
        Edge.refused(() -> at(1438), Edge.STATE, "rest(2, 2) at 1438", x -> x.rest(2, 2));
        Edge.refused(() -> at(1439), Edge.STATE, "rest(2, 1) at 1439", x -> x.rest(2, 1));
        Edge.refused(() -> at(720), Edge.STATE, "rest(2, 720) at 720", x -> x.rest(2, 720));
        Edge.refused(TravellerEdges::behindAll, Edge.STATE, "rest(2, 1) at 1538", x -> x.rest(2, 1));
    }

    private static void take() {
        Document.says("Promise 9", "Lets a traveller take a ferry.");
        TideFares x = Checks.with("ab@10/30+20$5;ba@30/20+10$8");
        Document.says("Promise 9", "Returns the minute at which the traveller comes.");
        Edge.due("take(3, 0)", 30, x.take(3, 0));
        Edge.due("take(3, 1), at once", 40, x.take(3, 1));
        int[] due = {0, 40, 32, 2, 18};
        for (int what = 0; what < 5; what++) {
            Edge.due("traveller(3, " + what + ")", due[what], x.traveller(3, what));
        }
        Edge.due("ferryOf(0, 8)", 1, x.ferryOf(0, 8));
        Edge.due("ferryOf(1, 8)", 1, x.ferryOf(1, 8));
        Edge.due("traveller(0, 3)", 0, x.traveller(0, 3));
        Document.says("Promise 9", "Undoable.");
        Edge.undoable("take", y -> y.take(0, 0));
        Document.says("Promise 9", "- `traveller`: 0 to 3");
        Edge.range(() -> Checks.with("ab@0/1+1$0"), Edge.INDEX, "take: a traveller", 0, 3, (y, traveller) -> {
            y.take(traveller, 0);
            return y.traveller(traveller, 3) == 1 ? traveller : -1;
        });
        Document.says("Promise 9", "- `ferry`: its number");
        Edge.range(TravellerEdges::allFromOne, Edge.INDEX, "take: a ferry", 0, 13, (y, ferry) -> {
            y.take(0, ferry);
            return y.ferryOf(ferry, 8) == 1 ? ferry : -1;
        });
    }

    /** 14 ferries, each of which every traveller can take. */
    private static TideFares allFromOne() {
        TideFares x = new TideFares();
        for (int ferry = 0; ferry < 14; ferry++) {
            x.ferry(0, 1, 0, 1, 1, 0);
        }
        return x;
    }

    private static void takeRefused() {
        Document.says("Promise 9", "Throws `IndexOutOfBoundsException` if there is no such traveller or ferry");
        Edge.refused(Edge::busy, Edge.INDEX, "take(4, 0)", x -> x.take(4, 0));
        Edge.refused(Edge::busy, Edge.INDEX, "take(-1, 0)", x -> x.take(-1, 0));
        Edge.refused(Edge::busy, Edge.INDEX, "take(0, 4) of four", x -> x.take(0, 4));
        Edge.refused(Edge::busy, Edge.INDEX, "take(0, -1)", x -> x.take(0, -1));
        Edge.refused(TideFares::new, Edge.INDEX, "take(0, 0) of none", x -> x.take(0, 0));
        Edge.refused(TravellerEdges::behindAll, Edge.INDEX, "take(2, 1) of one", x -> x.take(2, 1));
        Document.says("Promise 9", "Throws `IllegalStateException` if it cannot be taken");
        Edge.refused(Edge::busy, Edge.STATE, "take(3, 1) from another island", x -> x.take(3, 1));
        Edge.refused(TravellerEdges::behindAll, Edge.STATE, "take(2, 0) from another island", x -> x.take(2, 0));
        Edge.refused(() -> leaving(1422, 50), Edge.STATE, "take(0, 0) behind the last one", x -> x.take(0, 0));
        Edge.refused(() -> leaving(0, 9), Edge.STATE, "take(0, 0) with a coin too few", x -> x.take(0, 0));
        Edge.due("taken at the last minute", 1441, leaving(1421, 5).take(0, 0));
        Edge.due("taken with the last coin", 31, leaving(0, 10).take(0, 0));
    }

    /** A ferry at 11 for 10 and at 1421 for 5, and a traveller at this minute with this purse. */
    private static TideFares leaving(int minute, int purse) {
        TideFares x = Checks.with("ab@11/30+20$5");
        x.place(0, 0, minute, purse);
        return x;
    }

    private static void traveller() {
        Document.says("Promise 16", "Returns something of a traveller.", "Returns the number.");
        TideFares x = Edge.busy();
        Document.says("Promise 16", "- `what`: 0: the island; 1: the minute; 2: the purse; 3: ferries taken so far; "
                + "4: coins paid so far");
        int[][] due = {{1, 30, 40, 1, 10}, {3, 895, 801, 1, 198}, {0, 0, 50, 0, 0}, {0, 7, 50, 0, 0}};
        for (int traveller = 0; traveller < 4; traveller++) {
            for (int what = 0; what < 5; what++) {
                Edge.due("traveller(" + traveller + ", " + what + ")", due[traveller][what],
                        x.traveller(traveller, what));
            }
        }
        Edge.range(Edge::busy, Edge.ARGUMENT, "traveller: what", 0, 4, (y, what) -> {
            y.traveller(0, what);
            return what;
        });
        Document.says("Promise 16", "- `traveller`: 0 to 3");
        Edge.range(Edge::busy, Edge.INDEX, "traveller: a traveller", 0, 3, (y, traveller) -> {
            y.traveller(traveller, 0);
            return traveller;
        });
        for (int what = 0; what < 5; what++) {
            int asked = what;
            Edge.looks(Edge::busy, "traveller(1, " + what + ")", y -> y.traveller(1, asked));
        }
    }

    private static void travellerRefused() {
        Document.says("Promise 16", "Throws `IndexOutOfBoundsException` if there is no such traveller");
        Edge.refused(Edge::busy, Edge.INDEX, "traveller(4, 4)", x -> x.traveller(4, 4));
        Edge.refused(Edge::busy, Edge.INDEX, "traveller(-1, 0)", x -> x.traveller(-1, 0));
        Edge.refused(Edge::busy, Edge.INDEX, "traveller(4, 5)", x -> x.traveller(4, 5));
        Edge.refused(Edge::busy, Edge.INDEX, "traveller(-1, -1)", x -> x.traveller(-1, -1));
        Document.says("Promise 16", "Throws `IllegalArgumentException` if what is not 0 to 4");
        Edge.refused(Edge::busy, Edge.ARGUMENT, "traveller(0, 5)", x -> x.traveller(0, 5));
        Edge.refused(Edge::busy, Edge.ARGUMENT, "traveller(3, -1)", x -> x.traveller(3, -1));
    }

    private static void refusal() {
        Document.says("Promise 21", "Tells why a traveller cannot take a ferry.");
        Document.says("Promise 21", "Returns the reason, 1 to 3; 0 if it can be taken.");
        Edge.due("it can be taken", 0, leaving(0, 10).refusal(0, 0));
        Edge.due("from another island", 1, Edge.busy().refusal(3, 1));
        Edge.due("it leaves at 1421", 0, leaving(1421, 5).refusal(0, 0));
        Edge.due("it does not leave at 1422", 2, leaving(1422, 999).refusal(0, 0));
        Edge.due("a coin too few", 3, leaving(0, 9).refusal(0, 0));
        Edge.due("a coin too few when it is not dear", 3, leaving(12, 4).refusal(0, 0));
        Edge.due("coins for it when it is not dear", 0, leaving(12, 5).refusal(0, 0));
        Document.says("Promise 21", "- `traveller`: 0 to 3");
        Edge.range(Edge::busy, Edge.INDEX, "refusal: a traveller", 0, 3, (x, traveller) -> {
            x.refusal(traveller, 0);
            return traveller;
        });
        Document.says("Promise 21", "- `ferry`: its number");
        Edge.range(Edge::full, Edge.INDEX, "refusal: a ferry", 0, 13, (x, ferry) -> {
            x.refusal(0, ferry);
            return ferry;
        });
        Edge.looks(Edge::busy, "refusal(2, 0)", x -> x.refusal(2, 0));
        Edge.looks(Edge::busy, "refusal(3, 1)", x -> x.refusal(3, 1));
    }

    private static void refusalRefused() {
        Document.says("Promise 21", "Throws `IndexOutOfBoundsException` if there is no such traveller or ferry");
        Edge.refused(Edge::busy, Edge.INDEX, "refusal(4, 0)", x -> x.refusal(4, 0));
        Edge.refused(Edge::busy, Edge.INDEX, "refusal(-1, 0)", x -> x.refusal(-1, 0));
        Edge.refused(Edge::busy, Edge.INDEX, "refusal(0, 4) of four", x -> x.refusal(0, 4));
        Edge.refused(Edge::busy, Edge.INDEX, "refusal(0, -1)", x -> x.refusal(0, -1));
        Edge.refused(TideFares::new, Edge.INDEX, "refusal(0, 0) of none", x -> x.refusal(0, 0));
    }
}
