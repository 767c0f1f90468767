/** The promises 22 to 27: ways, what can be reached, last starts, how islands are joined, and the digest. */
final class WayEdges {
    private WayEdges() {
    }

    static void all() {
        soonest();
        soonestByTide();
        soonestOfMany();
        soonestRefused();
        cheapest();
        cheapestByLimit();
        cheapestByClock();
        cheapestOfMany();
        cheapestRefused();
        reach();
        reachByPurse();
        reachHoweverLate();
        lastStart();
        lastStartByTide();
        lastStartOfMany();
        lastStartRefused();
        joined();
        joinedByTheMinute();
        digest();
        digestWithoutAndFull();
        digestByTheMinute();
    }

    private static void soonest() {
        Document.says("Promise 22", "Finds the soonest way.");
        Document.says("Promise 22", "Returns the least minute at which one who is on from at this minute can be on to "
                + "(this minute, if both are the same); NONE if there is no way.");
        TideFares x = Checks.with("ab@11/30+20$5;ba@11/30+20$5;bc@31/45+99$8");
        int[][] ways = {{0, 1, 0, 31}, {0, 1, 10, 31}, {0, 1, 11, 31}, {0, 1, 12, 61}, {0, 1, 1420, 1441},
            {0, 1, 1421, 1441}, {0, 1, 1422, -1}, {0, 1, 1439, -1}, {0, 2, 11, 130}, {0, 2, 12, 175},
            {1, 2, 31, 130}, {1, 2, 32, 175}, {2, 0, 0, -1}, {2, 1, 0, -1}, {0, 7, 0, -1}, {7, 0, 0, -1}};
        for (int[] way : ways) {
            Edge.due("soonest(" + way[0] + ", " + way[1] + ", " + way[2] + ")", way[3],
                    x.soonest(way[0], way[1], way[2]));
        }
        for (int island = 0; island < 8; island++) {
            Edge.due("from " + island + " to itself at 0", 0, x.soonest(island, island, 0));
            Edge.due("from " + island + " to itself at 11", 11, x.soonest(island, island, 11));
            Edge.due("from " + island + " to itself at 1439", 1439, x.soonest(island, island, 1439));
        }
        Edge.due("no ferry", -1, new TideFares().soonest(0, 1, 0));
        Edge.due("no ferry, from an island to itself", 1439, new TideFares().soonest(7, 7, 1439));
        Document.says("Promise 22", "- `from`: 0 to 7");
        Edge.range(Edge::full, Edge.INDEX, "soonest: from", 0, 7, (y, from) -> {
            y.soonest(from, 0, 0);
            return from;
        });
        Document.says("Promise 22", "- `to`: 0 to 7");
        Edge.range(Edge::full, Edge.INDEX, "soonest: to", 0, 7, (y, to) -> {
            y.soonest(0, to, 0);
            return to;
        });
        Document.says("Promise 22", "- `minute`: 0 to 1439");
        Edge.range(Edge::full, Edge.ARGUMENT, "soonest: a minute", 0, 1439, (y, minute) -> y.soonest(3, 3, minute));
        Edge.looks(Edge::busy, "soonest(0, 3, 0)", y -> y.soonest(0, 3, 0));
    }

    private static void soonestByTide() {
        Document.says("Promise 22", "Returns the least minute at which one who is on from at this minute can be on to "
                + "(this minute, if both are the same); NONE if there is no way.");
        TideFares x = Checks.with("ab@0/1+9$0^;bc@0/1+9$0_;cd@0/7+9$0^");
        Edge.due("high tide at 359", 368, x.soonest(0, 1, 359));
        Edge.due("high tide is over at 360", 729, x.soonest(0, 1, 360));
        Edge.due("low tide from 360 on", 369, x.soonest(0, 2, 0));
        Edge.due("low tide at 719", 728, x.soonest(1, 2, 719));
        Edge.due("low tide is over at 720", 1089, x.soonest(1, 2, 720));
        Edge.due("high tide comes back at 720, and the timetable at 721", 730, x.soonest(2, 3, 358));
        Edge.due("high tide does not come back behind 1080", -1, x.soonest(0, 1, 1080));
        x.set(0, 1);
        Edge.due("tide 1: high tide at 358", 367, x.soonest(0, 1, 358));
        Edge.due("tide 1: high tide is over at 359", 728, x.soonest(0, 1, 359));
        Edge.due("tide 1: high tide comes back at 1439", 1448, x.soonest(0, 1, 1079));
    }

    /** The sooner one of two is had whichever is told first, and a way of seven ferries in any order. */
    private static void soonestOfMany() {
        Document.says("Promise 22", "Returns the least minute at which one who is on from at this minute can be on to "
                + "(this minute, if both are the same); NONE if there is no way.");
        String[] orders = {"ab@0/100+50$5;ab@10/100+30$5;bc@40/199+1$0", "ab@10/100+30$5;bc@40/199+1$0;ab@0/100+50$5",
            "bc@40/199+1$0;ab@10/100+30$5;ab@0/100+50$5"};
        for (String order : orders) {
            TideFares x = Checks.with(order);
            Edge.due("one that leaves later is there sooner: " + order, 40, x.soonest(0, 1, 0));
            Edge.due("it is had at 40: " + order, 41, x.soonest(0, 2, 0));
            Edge.due("it is missed from 11 on: " + order, 240, x.soonest(0, 2, 11));
        }
        String[] told = {"0123456", "6543210", "3641520", "1350246"};
        for (String islands : told) {
            TideFares x = new TideFares();
            for (char island : islands.toCharArray()) {
                int from = island - '0';
                x.ferry(from, from + 1, from, 10, 1, 1);
            }
            Edge.due("seven ferries, told as " + islands, 7, x.soonest(0, 7, 0));
            Edge.due("seven ferries a minute later, told as " + islands, 17, x.soonest(0, 7, 1));
            Edge.due("seven ferries, cheapest, told as " + islands, 14, x.cheapest(0, 7, 0, 36));
            Edge.due("seven ferries, the last start, told as " + islands, 0, x.lastStart(0, 7, 16));
            Checks.dueShare("seven ferries, joined, told as " + islands, 28.0 / 56.0, x.joined());
        }
    }

    private static void soonestRefused() {
        Document.says("Promise 22", "Throws `IndexOutOfBoundsException` if there is no such island");
        int[][] nowhere = {{-1, 0}, {8, 0}, {0, -1}, {0, 8}, {8, 8}, {-1, -1}, {8, -1}};
        for (int[] way : nowhere) {
            Edge.refused(Edge::busy, Edge.INDEX, "soonest from " + way[0] + " to " + way[1],
                    x -> x.soonest(way[0], way[1], 0));
            Edge.refused(Edge::busy, Edge.INDEX, "soonest from " + way[0] + " to " + way[1] + " at 1440",
                    x -> x.soonest(way[0], way[1], 1440));
        }
        Document.says("Promise 22", "Throws `IllegalArgumentException` if minute is out of range");
        Edge.refused(Edge::busy, Edge.ARGUMENT, "soonest at 1440", x -> x.soonest(0, 1, 1440));
        Edge.refused(Edge::busy, Edge.ARGUMENT, "soonest at -1", x -> x.soonest(0, 1, -1));
        Edge.refused(Edge::busy, Edge.ARGUMENT, "soonest at 1440 to itself", x -> x.soonest(0, 0, 1440));
    }

    private static void cheapest() {
        Document.says("Promise 23", "Finds the cheapest way.");
        Document.says("Promise 23", "- `from`: 0 to 7");
        Edge.range(Edge::full, Edge.INDEX, "cheapest: from", 0, 7, (x, from) -> {
            x.cheapest(from, 0, 0, 0);
            return from;
        });
        Document.says("Promise 23", "- `to`: 0 to 7");
        Edge.range(Edge::full, Edge.INDEX, "cheapest: to", 0, 7, (x, to) -> {
            x.cheapest(0, to, 0, 1539);
            return to;
        });
        Document.says("Promise 23", "- `minute`: 0 to 1439");
        Edge.range(Edge::full, Edge.ARGUMENT, "cheapest: a minute", 0, 1439, (x, minute) -> {
            x.cheapest(0, 1, minute, 1539);
            return minute;
        });
        Document.says("Promise 23", "- `limit`: minute to 1539");
        int[] minutes = {0, 1, 700, 1438, 1439};
        for (int minute : minutes) {
            Edge.range(Edge::full, Edge.ARGUMENT, "cheapest at " + minute + ": a limit", minute, 1539, (x, limit) -> {
                x.cheapest(0, 1, minute, limit);
                return limit;
            });
        }
        Edge.looks(Edge::busy, "cheapest(0, 3, 0, 1539)", x -> x.cheapest(0, 3, 0, 1539));
    }

    private static void cheapestByLimit() {
        Document.says("Promise 23", "Returns the fewest coins with which one who is on from at this minute can be on "
                + "to at the limit or ahead of it; NONE if there is no way.");
        TideFares x = Checks.with("ab@11/30+20$5;ba@0/1+1$1");
        int[][] coins = {{0, 0, -1}, {0, 30, -1}, {0, 31, 10}, {0, 32, 10}, {0, 60, 10}, {0, 61, 5}, {0, 1539, 5},
            {11, 31, 10}, {12, 60, -1}, {12, 61, 5}, {1421, 1440, -1}, {1421, 1441, 5}, {1421, 1539, 5},
            {1422, 1539, -1}, {1439, 1539, -1}};
        for (int[] due : coins) {
            Edge.due("cheapest(0, 1, " + due[0] + ", " + due[1] + ")", due[2], x.cheapest(0, 1, due[0], due[1]));
        }
        int[] minutes = {0, 1, 1438, 1439};
        for (int minute : minutes) {
            Edge.due("to itself at " + minute, 0, x.cheapest(0, 0, minute, minute));
            Edge.due("to itself by 1539", 0, x.cheapest(1, 1, minute, 1539));
            Edge.due("to another one at once", -1, x.cheapest(1, 0, minute, minute));
        }
        Edge.due("a minute's way by a minute later", 1, x.cheapest(1, 0, 1439, 1440));
        Edge.due("no way at all", -1, x.cheapest(0, 7, 0, 1539));
        Edge.due("no ferry", -1, new TideFares().cheapest(0, 1, 0, 1539));
        Edge.due("no ferry, to itself", 0, new TideFares().cheapest(7, 7, 0, 1539));
        TideFares late = Checks.with("ab@0/1+99$7");
        Edge.due("by 1537 from 1439", -1, late.cheapest(0, 1, 1439, 1537));
        Edge.due("by 1538 from 1439", 7, late.cheapest(0, 1, 1439, 1538));
        Edge.due("by 1539 from 1439", 7, late.cheapest(0, 1, 1439, 1539));
    }

    /** Dear and not dear at the minutes round the turn of a ferry's own half hour, and just within the limit. */
    private static void cheapestByClock() {
        Document.says("Promise 23", "Returns the fewest coins with which one who is on from at this minute can be on "
                + "to at the limit or ahead of it; NONE if there is no way.");
        int[] clocks = {0, 1, 29, 30, 31, 59};
        for (int clock : clocks) {
            TideFares x = Checks.with("ab@0/1+1$7");
            x.clock(0, clock);
            int hour = 120 - clock;
            String call = "clock " + clock + ": ";
            Edge.due(call + "a minute ahead of the dear half hour", 7, x.cheapest(0, 1, hour - 1, hour));
            Edge.due(call + "in its first minute", 14, x.cheapest(0, 1, hour, hour + 30));
            Edge.due(call + "in its last minute", 14, x.cheapest(0, 1, hour + 29, hour + 30));
            Edge.due(call + "in its last minute, and one can wait", 7, x.cheapest(0, 1, hour + 29, hour + 31));
            Edge.due(call + "behind it", 7, x.cheapest(0, 1, hour + 30, hour + 31));
            Edge.due(call + "from its first minute on", 7, x.cheapest(0, 1, hour, hour + 31));
        }
        TideFares x = Checks.with("ab@0/1+1$7");
        x.set(1, 0);
        Edge.due("never dear", 7, x.cheapest(0, 1, 60, 61));
        x.set(1, 1);
        Edge.due("dear for a minute", 14, x.cheapest(0, 1, 60, 61));
        Edge.due("dear for a minute, and one can wait", 7, x.cheapest(0, 1, 60, 62));
        x.set(1, 59);
        Edge.due("dear but for a minute", 14, x.cheapest(0, 1, 60, 119));
        Edge.due("dear but for a minute, and one can wait", 7, x.cheapest(0, 1, 60, 120));
        x.set(1, 60);
        Edge.due("always dear", 14, x.cheapest(0, 1, 60, 1539));
    }

    /** Less at once can be more in the end, and the other way round. */
    private static void cheapestOfMany() {
        Document.says("Promise 23", "Returns the fewest coins with which one who is on from at this minute can be on "
                + "to at the limit or ahead of it; NONE if there is no way.");
        TideFares x = Checks.with("ab@0/30+10$5;bc@10/199+1$0");
        Edge.due("b for less is too late for c by 11", 10, x.cheapest(0, 2, 0, 208));
        Edge.due("b for less, and c later", 5, x.cheapest(0, 2, 0, 210));
        TideFares two = Checks.with("ab@31/199+10$50;ac@31/199+2$20;cb@33/199+7$29;cb@33/199+8$28");
        Edge.due("by 39 there is none", -1, two.cheapest(0, 1, 0, 39));
        Edge.due("two for 49 by 40", 49, two.cheapest(0, 1, 0, 40));
        Edge.due("two for 48 by 41", 48, two.cheapest(0, 1, 0, 41));
        two.set(1, 60);
        Edge.due("all dear by 40", 98, two.cheapest(0, 1, 0, 40));
        Edge.due("all dear by 41", 96, two.cheapest(0, 1, 0, 41));
        TideFares free = Checks.with("ab@0/1+1$0;bc@0/1+1$0;ac@0/1+1$1");
        Edge.due("a minute's way", 2, free.cheapest(0, 2, 0, 1));
        Edge.due("two without a fare", 0, free.cheapest(0, 2, 0, 2));
        TideFares dearest = new TideFares();
        dearest.set(1, 60);
        for (int island = 0; island < 7; island++) {
            dearest.ferry(island, island + 1, 199, 199, 99, 99);
        }
        Edge.due("the dearest way of all: six ferries", 1188, dearest.cheapest(0, 6, 0, 1539));
        Edge.due("the dearest way of all: seven ferries", 1386, dearest.cheapest(0, 7, 0, 1539));
        Edge.due("the dearest way of all ends at 1492", 1386, dearest.cheapest(0, 7, 0, 1492));
        Edge.due("the dearest way of all does not end at 1491", -1, dearest.cheapest(0, 7, 0, 1491));
    }

    private static void cheapestRefused() {
        Document.says("Promise 23", "Throws `IndexOutOfBoundsException` if there is no such island");
        int[][] nowhere = {{-1, 0}, {8, 0}, {0, -1}, {0, 8}, {8, 8}, {-1, -1}};
        for (int[] way : nowhere) {
            Edge.refused(Edge::busy, Edge.INDEX, "cheapest from " + way[0] + " to " + way[1],
                    x -> x.cheapest(way[0], way[1], 0, 1539));
            Edge.refused(Edge::busy, Edge.INDEX, "cheapest from " + way[0] + " to " + way[1] + " at 1440",
                    x -> x.cheapest(way[0], way[1], 1440, 1539));
            Edge.refused(Edge::busy, Edge.INDEX, "cheapest from " + way[0] + " to " + way[1] + " by 1540",
                    x -> x.cheapest(way[0], way[1], 0, 1540));
        }
        Document.says("Promise 23", "Throws `IllegalArgumentException` if minute or limit is out of range");
        int[][] wrong = {{-1, -1}, {-1, 100}, {1440, 1440}, {1440, 1539}, {0, -1}, {10, 9}, {1439, 1438}, {0, 1540},
            {1439, 1540}, {-1, 1540}, {1440, 1439}};
        for (int[] by : wrong) {
            Edge.refused(Edge::busy, Edge.ARGUMENT, "cheapest at " + by[0] + " by " + by[1],
                    x -> x.cheapest(0, 1, by[0], by[1]));
            Edge.refused(Edge::busy, Edge.ARGUMENT, "cheapest to itself at " + by[0] + " by " + by[1],
                    x -> x.cheapest(0, 0, by[0], by[1]));
        }
    }

    private static void reach() {
        Document.says("Promise 24", "Tells which islands a traveller can reach.");
        Document.says("Promise 24", "Returns a mask of the islands, with the bit i for the island i, "
                + "that can be reached with the purse,");
        TideFares x = new TideFares();
        for (int island = 0; island < 7; island++) {
            x.ferry(island, island + 1, 0, 1, 1, 0);
        }
        for (int island = 0; island < 8; island++) {
            x.place(1, island, 0, 0);
            Edge.due("from " + island + " on", 256 - (1 << island), x.reach(1));
        }
        TideFares one = Checks.with("ah@0/1+1$0");
        Edge.due("a and h", 129, one.reach(0));
        one.place(0, 7, 0, 999);
        Edge.due("h alone", 128, one.reach(0));
        Document.says("Promise 24", "- `traveller`: 0 to 3");
        Edge.range(Edge::busy, Edge.INDEX, "reach", 0, 3, (y, traveller) -> {
            y.reach(traveller);
            return traveller;
        });
        Edge.looks(Edge::busy, "reach(2)", y -> y.reach(2));
        Document.says("Promise 24", "Throws `IndexOutOfBoundsException` if there is no such traveller");
        Edge.refused(Edge::busy, Edge.INDEX, "reach(4)", y -> y.reach(4));
        Edge.refused(Edge::busy, Edge.INDEX, "reach(-1)", y -> y.reach(-1));
    }

    private static void reachByPurse() {
        Document.says("Promise 24", "that can be reached with the purse,");
        TideFares x = Checks.with("ab@0/1+1$7;bc@0/1+1$0;cd@0/1+1$1;ae@0/60+1$8");
        int[][] purses = {{0, 1}, {6, 1}, {7, 7}, {8, 15}, {14, 15}, {15, 15}, {16, 31}, {17, 31}, {999, 31}};
        for (int[] purse : purses) {
            x.place(3, 0, 0, purse[0]);
            Edge.due("reach with " + purse[0], purse[1], x.reach(3));
        }
        x.place(3, 0, 1410, 7);
        Edge.due("from 1410 on it is not dear", 7, x.reach(3));
        x.set(1, 60);
        Edge.due("always dear, with 7", 1, x.reach(3));
        x.place(3, 0, 0, 14);
        Edge.due("always dear, with 14", 7, x.reach(3));
        x.place(3, 0, 0, 13);
        Edge.due("always dear, with 13", 1, x.reach(3));
        x.place(3, 1, 0, 0);
        Edge.due("an empty purse, without a fare", 6, x.reach(3));
        x.place(3, 7, 0, 0);
        Edge.due("an empty purse, without a ferry", 128, x.reach(3));
    }

    private static void reachHoweverLate() {
        Document.says("Promise 24", "however late, with that on which the traveller is.");
        TideFares x = Checks.with("ab@0/1+99$5;bc@0/1+1$0");
        x.place(0, 0, 1439, 5);
        Edge.due("b can be reached at 1538", 3, x.reach(0));
        x.place(0, 0, 1340, 10);
        Edge.due("c can be reached by the ferry at 1439", 7, x.reach(0));
        x.place(0, 0, 1341, 10);
        Edge.due("c cannot be reached by a ferry at 1440", 3, x.reach(0));
        x.place(0, 0, 1340, 9);
        Edge.due("one who waits till it is not dear is too late for c", 3, x.reach(0));
        TideFares tides = Checks.with("ab@0/1+1$5_");
        tides.place(0, 0, 720, 10);
        Edge.due("at 1080 there is low tide again", 3, tides.reach(0));
        tides.place(0, 0, 720, 5);
        Edge.due("at 1110 it is not dear", 3, tides.reach(0));
        tides.kind(0, 1);
        tides.place(0, 0, 1080, 999);
        Edge.due("behind 1079 there is no high tide", 1, tides.reach(0));
        x.place(1, 0, 1439, 50);
        x.take(1, 0);
        Edge.due("at 1538", 2, x.reach(1));
        Edge.due("no ferry", 1, new TideFares().reach(3));
    }

    private static void lastStart() {
        Document.says("Promise 25", "Finds the last start.");
        Document.says("Promise 25", "Returns the greatest minute, 0 to 1439, at which one can be on from, "
                + "and still be on to at the limit or ahead of it; NONE if there is none.");
        TideFares x = Checks.with("ab@11/30+20$5;bc@31/45+99$8;de@0/1+1$0");
        int[][] starts = {{0, 1, 0, -1}, {0, 1, 30, -1}, {0, 1, 31, 11}, {0, 1, 32, 11}, {0, 1, 60, 11},
            {0, 1, 61, 41}, {0, 1, 1440, 1391}, {0, 1, 1441, 1421}, {0, 1, 1539, 1421}, {0, 2, 129, -1},
            {0, 2, 130, 11}, {0, 2, 174, 11}, {0, 2, 175, 41}, {1, 0, 1539, -1}, {2, 0, 1539, -1}, {0, 7, 1539, -1},
            {3, 4, 0, -1}, {3, 4, 1, 0}, {3, 4, 2, 1}, {3, 4, 1439, 1438}, {3, 4, 1440, 1439}, {3, 4, 1539, 1439}};
        for (int[] start : starts) {
            Edge.due("lastStart(" + start[0] + ", " + start[1] + ", " + start[2] + ")", start[3],
                    x.lastStart(start[0], start[1], start[2]));
        }
        Edge.due("no ferry", -1, new TideFares().lastStart(0, 1, 1539));
        Document.says("Promise 25", "- `from`: 0 to 7");
        Edge.range(Edge::full, Edge.INDEX, "lastStart: from", 0, 7, (y, from) -> {
            y.lastStart(from, from == 5 ? 4 : 5, 600);
            return from;
        });
        Document.says("Promise 25", "- `to`: 0 to 7, another one");
        Edge.range(Edge::full, Edge.INDEX, "lastStart: to", 0, 7, (y, to) -> {
            y.lastStart(to == 5 ? 4 : 5, to, 600);
            return to;
        });
        Document.says("Promise 25", "- `limit`: 0 to 1539");
        Edge.range(Edge::full, Edge.ARGUMENT, "lastStart: a limit", 0, 1539, (y, limit) -> {
            y.lastStart(0, 1, limit);
            return limit;
        });
        Edge.looks(Edge::busy, "lastStart(0, 3, 1539)", y -> y.lastStart(0, 3, 1539));
    }

    private static void lastStartByTide() {
        Document.says("Promise 25", "Returns the greatest minute, 0 to 1439, at which one can be on from, and still be "
                + "on to at the limit or ahead of it; NONE if there is none.");
        TideFares x = Checks.with("ab@0/1+1$0^;bc@0/1+1$0_;cd@5/199+1$0_;de@0/7+1$0^");
        int[][] starts = {{0, 1, 0, -1}, {0, 1, 1, 0}, {0, 1, 359, 358}, {0, 1, 360, 359}, {0, 1, 361, 359},
            {0, 1, 720, 359}, {0, 1, 721, 720}, {0, 1, 1080, 1079}, {0, 1, 1539, 1079}, {1, 2, 360, -1},
            {1, 2, 361, 360}, {1, 2, 720, 719}, {1, 2, 1080, 719}, {1, 2, 1081, 1080}, {1, 2, 1539, 1439},
            {2, 3, 403, -1}, {2, 3, 404, 403}, {2, 3, 1199, 602}, {2, 3, 1200, 1199}, {2, 3, 1399, 1398},
            {3, 4, 721, 357}, {3, 4, 722, 721}, {0, 2, 360, -1}, {0, 2, 361, 359}, {0, 2, 1081, 1079}};
        for (int[] start : starts) {
            Edge.due("lastStart(" + start[0] + ", " + start[1] + ", " + start[2] + ")", start[3],
                    x.lastStart(start[0], start[1], start[2]));
        }
        x.set(0, 359);
        Edge.due("tide 359: high tide at 0 alone", 0, x.lastStart(0, 1, 361));
        x.set(0, 360);
        Edge.due("tide 360: no high tide at 0", -1, x.lastStart(0, 1, 360));
        Edge.due("tide 360: high tide at 360", 360, x.lastStart(0, 1, 361));
        Edge.due("tide 360: low tide at 359", 359, x.lastStart(1, 2, 720));
    }

    /** The later one of two is had whichever is told first, by either ferry. */
    private static void lastStartOfMany() {
        Document.says("Promise 25", "Returns the greatest minute, 0 to 1439, at which one can be on from, and still be "
                + "on to at the limit or ahead of it; NONE if there is none.");
        String[] orders = {"ab@0/100+50$5;ab@10/100+30$5;ac@20/199+1$9;cb@25/199+9$9",
            "cb@25/199+9$9;ac@20/199+1$9;ab@10/100+30$5;ab@0/100+50$5",
            "ab@10/100+30$5;cb@25/199+9$9;ab@0/100+50$5;ac@20/199+1$9"};
        for (String order : orders) {
            TideFares x = Checks.with(order);
            Edge.due("by 33: none, " + order, -1, x.lastStart(0, 1, 33));
            Edge.due("by 34: with two ferries, " + order, 20, x.lastStart(0, 1, 34));
            Edge.due("by 139, " + order, 20, x.lastStart(0, 1, 139));
            Edge.due("by 140, " + order, 110, x.lastStart(0, 1, 140));
            Edge.due("by 150, " + order, 110, x.lastStart(0, 1, 150));
            Edge.due("by 232, " + order, 110, x.lastStart(0, 1, 232));
            Edge.due("by 233, " + order, 219, x.lastStart(0, 1, 233));
            Edge.due("by 240, " + order, 219, x.lastStart(0, 1, 240));
        }
        TideFares early = Checks.with("ab@110/199+30$5;ab@0/199+50$5;ab@40/199+99$1");
        Edge.due("the greatest minute stands first", 110, early.lastStart(0, 1, 140));
        Edge.due("the greatest minute cannot be had", 40, early.lastStart(0, 1, 139));
        Edge.due("the least minute alone", 0, early.lastStart(0, 1, 138));
        Edge.due("the least minute cannot be had", -1, early.lastStart(0, 1, 49));
    }

    private static void lastStartRefused() {
        Document.says("Promise 25", "Throws `IndexOutOfBoundsException` if there is no such island");
        int[][] nowhere = {{-1, 0}, {8, 0}, {0, -1}, {0, 8}, {8, 8}, {-1, -1}};
        for (int[] way : nowhere) {
            Edge.refused(Edge::busy, Edge.INDEX, "lastStart from " + way[0] + " to " + way[1],
                    x -> x.lastStart(way[0], way[1], 600));
            Edge.refused(Edge::busy, Edge.INDEX, "lastStart from " + way[0] + " to " + way[1] + " by 1540",
                    x -> x.lastStart(way[0], way[1], 1540));
        }
        Document.says("Promise 25", "Throws `IllegalArgumentException` if both islands are the same, "
                + "or limit is out of range");
        for (int island = 0; island < 8; island++) {
            int same = island;
            Edge.refused(Edge::busy, Edge.ARGUMENT, "lastStart from " + island + " to itself",
                    x -> x.lastStart(same, same, 600));
        }
        Edge.refused(Edge::busy, Edge.ARGUMENT, "lastStart by 1540", x -> x.lastStart(0, 1, 1540));
        Edge.refused(Edge::busy, Edge.ARGUMENT, "lastStart by -1", x -> x.lastStart(0, 1, -1));
        Edge.refused(Edge::busy, Edge.ARGUMENT, "lastStart to itself by 1540", x -> x.lastStart(3, 3, 1540));
    }

    private static void joined() {
        Document.says("Promise 26", "Returns how well the islands are joined.");
        Document.says("Promise 26", "Returns the pairs of unlike islands, with both orders as two, "
                + "from the first one of which");
        Checks.dueShare("no ferry", 0.0, new TideFares().joined());
        TideFares both = Checks.with("ab@0/1+1$99");
        Checks.dueShare("one order", 1.0 / 56.0, both.joined());
        both.ferry(1, 0, 0, 1, 1, 99);
        Checks.dueShare("both orders", 2.0 / 56.0, both.joined());
        both.ferry(1, 0, 0, 1, 1, 99);
        Checks.dueShare("both orders, one twice", 2.0 / 56.0, both.joined());
        TideFares x = new TideFares();
        int[] pairs = {1, 3, 6, 10, 15, 21, 28};
        for (int island = 0; island < 7; island++) {
            x.ferry(island, island + 1, 0, 1, 1, 0);
            Checks.dueShare("a row of " + (island + 2), pairs[island] / 56.0, x.joined());
        }
        x.ferry(7, 0, 0, 1, 1, 0);
        Checks.dueShare("a ring", 1.0, x.joined());
        x.drop(3);
        Checks.dueShare("a ring without one ferry", 28.0 / 56.0, x.joined());
        Checks.dueShare("14 ferries", 1.0, Edge.full().joined());
        Edge.looks(Edge::busy, "joined()", y -> Double.doubleToLongBits(y.joined()));
        for (int island = 0; island < 7; island++) {
            TideFares star = new TideFares();
            for (int to = 0; to <= island; to++) {
                star.ferry(7, to, 0, 1, 1, 0);
            }
            Checks.dueShare("from h to " + (island + 1), (island + 1) / 56.0, star.joined());
            Edge.due("the digest, from h to " + (island + 1), WaysTest.listed(star, ""), star.digest());
        }
    }

    private static void joinedByTheMinute() {
        Document.says("Promise 26", "at the minute 0 there is a way to the other one, as a double, divided by 56.");
        TideFares x = Checks.with("ab@0/199+40$0^;bc@40/199+1$0^;cd@41/199+1$0^");
        Checks.dueShare("by ferries at 0, 40 and 41", 6.0 / 56.0, x.joined());
        x.set(0, 359);
        Checks.dueShare("tide 359: the ferry at 0 goes, that at 40 does later", 6.0 / 56.0, x.joined());
        TideFares chain = Checks.with("ab@0/1+99$0^;bc@0/1+99$0_;cd@0/1+99$0^", "de@0/1+99$0_;ef@0/1+99$0");
        Checks.dueShare("each tide once", 15.0 / 56.0, chain.joined());
        chain.kind(4, 1);
        Checks.dueShare("there is no third high tide: f from c, d and e alone", 13.0 / 56.0, chain.joined());
        chain.set(0, 359);
        Checks.dueShare("five tides: f can be had from a by the ferry at 0 alone", 15.0 / 56.0, chain.joined());
        chain.set(0, 360);
        Checks.dueShare("four tides: neither e nor f can be had from a", 13.0 / 56.0, chain.joined());
        TideFares dear = Checks.with("ab@0/1+1$99");
        dear.place(0, 0, 1439, 0);
        Checks.dueShare("neither purses nor the minutes of travellers matter", 1.0 / 56.0, dear.joined());
    }

    private static void digest() {
        Document.says("Promise 27", "Computes a hash of the whole state. The hash starts at 3301. For each value v of "
                + "the following list, in order, the hash becomes 31 * hash + v, in long arithmetic with overflow.");
        Document.says("Promise 27", "Returns the hash.");
        long hash = 3301;
        for (int value : new int[] {0, 0, 0, 200, 0, 0, 30}) {
            hash = 31 * hash + value;
        }
        for (int traveller = 0; traveller < 4; traveller++) {
            for (int value : new int[] {0, 0, 50, 0, 0, 1}) {
                hash = 31 * hash + value;
            }
        }
        for (int way = 0; way < 21; way++) {
            hash = 31 * hash - 1;
        }
        hash = 31 * (31 * hash);
        Edge.due("of a new object, by hand", hash, new TideFares().digest());
        TideFares x = new TideFares();
        Checks.type(x, "!~");
        hash = 31 * (31 * (hash + 2) + 33) + 126;
        Edge.due("of a new object with two characters, by hand", hash, x.digest());
        Edge.looks(Edge::busy, "digest()", TideFares::digest);
        Edge.looks(Edge::full, "digest() with 14 ferries", TideFares::digest);
    }

    private static void digestWithoutAndFull() {
        Document.says("Promise 27", "The values are: count(0) to count(4); the settings 0 and 1; for each ferry its "
                + "numbers 0 to 8,", "for each traveller the numbers 0 to 4, and reach;",
                "the bits of joined (as Double.doubleToLongBits); the length of the buffer and each of its character "
                + "codes.");
        Edge.due("no ferry", WaysTest.listed(new TideFares(), ""), new TideFares().digest());
        Edge.due("four ferries", WaysTest.listed(Edge.busy(), "gh@1/"), Edge.busy().digest());
        Edge.due("14 ferries", WaysTest.listed(Edge.full(), ""), Edge.full().digest());
        for (int saved = 0; saved <= 6; saved++) {
            Edge.due(saved + " saved states", WaysTest.listed(Edge.withSaved(saved), ""),
                    Edge.withSaved(saved).digest());
        }
        StringBuilder text = new StringBuilder();
        TideFares x = new TideFares();
        for (int length = 1; length <= 60; length++) {
            char sign = (char) (32 + length);
            text.append(sign);
            x.append(sign);
            Edge.due(length + " characters", WaysTest.listed(new TideFares(), text.toString()), x.digest());
        }
        x.clearBuffer();
        Edge.due("60 characters, cleared", WaysTest.listed(new TideFares(), ""), x.digest());
        TideFares late = Checks.with("ab@0/1+99$0;ba@0/1+99$0");
        late.place(0, 0, 1439, 0);
        late.take(0, 0);
        late.place(1, 7, 1439, 999);
        late.place(2, 0, 0, 0);
        late.set(0, 719);
        late.set(1, 60);
        Edge.due("a traveller at 1538, and an empty purse", WaysTest.listed(late, ""), late.digest());
    }

    /** The first ferry is dear in this minute alone of an hour. */
    private static void dearAt(TideFares x, int minute) {
        x.set(1, 1);
        x.clock(0, (60 - minute % 60) % 60);
    }

    /** Ferries that tell 59, 60 and 61 apart, and 29 to 31, 399 to 401, 599 to 601. */
    private static void digestByTheMinute() {
        Document.says("Promise 27", "leaves at 60, and costs at 60;");
        for (int minute = 58; minute <= 62; minute++) {
            TideFares x = new TideFares();
            x.ferry(0, 1, minute, 199, 1, 7);
            Edge.due("leaves at " + minute, WaysTest.listed(x, ""), x.digest());
            dearAt(x, minute);
            Edge.due("dear at " + minute, WaysTest.listed(x, ""), x.digest());
        }
        Document.says("Promise 27", "for the islands 1 to 7 soonest from 0 at 30, cheapest from 0 at 30 by 400, "
                + "and lastStart from 0 by 600;");
        for (int island = 1; island < 8; island++) {
            for (int beside = -1; beside <= 1; beside++) {
                TideFares x = new TideFares();
                x.ferry(0, island, 30 + beside, 199, 1, 7);
                Edge.due("leaves to " + island + " at " + (30 + beside), WaysTest.listed(x, ""), x.digest());
                dearAt(x, 229 + beside);
                Edge.due("leaves to " + island + " for less at " + (30 + beside), WaysTest.listed(x, ""), x.digest());
                TideFares y = new TideFares();
                y.ferry(0, island, 102 + beside, 199, 99, 7);
                dearAt(y, 102 + beside);
                Edge.due("comes to " + island + " for less at " + (400 + beside), WaysTest.listed(y, ""), y.digest());
                TideFares z = new TideFares();
                z.ferry(0, island, 103 + beside, 199, 99, 7);
                Edge.due("comes to " + island + " at " + (600 + beside), WaysTest.listed(z, ""), z.digest());
            }
        }
    }
}
