/** The sentences of the document's terms: islands, tides, ferries, what they cost, and ways. */
final class TideEdges {
    private static final int[] TIDES = {0, 1, 100, 359, 360, 361, 718, 719};

    private TideEdges() {
    }

    static void all() {
        callsOfAnObject();
        numbers();
        islands();
        tideTurns();
        tideByItsSetting();
        fourteenFerries();
        numbersBehindADrop();
        anotherIsland();
        firstMinuteAndInterval();
        intervalsBehindTheFirst();
        minutesAndFare();
        kinds();
        cancelledLeavings();
        clocks();
        dearByTheClock();
        dearByTheSetting();
        lastMinute();
        lastMinuteOfWays();
        waits();
        atOnce();
    }

    /** The 512th call answers as any other one. */
    private static void callsOfAnObject() {
        Document.says("What it is", "An object is used for at most 512 calls after it has been made; "
                + "what later calls answer is free.");
        Document.says("What it is", "Islands joined by ferries whose fares hang on their clocks: ferries that go "
                + "every so many minutes, some with the high tide alone, some with the low one, clocks of ferries that "
                + "differ, fares that are dear in the first half of the hour of a ferry's own clock, travellers with "
                + "purses who wait, pay and go, the soonest way from island to island, the cheapest way by a limit, "
                + "what a purse can reach, ferries that are missed, what a later start would bring, ferries as texts "
                + "with errors by place, and undo.");
        TideFares x = new TideFares();
        for (int call = 1; call <= 510; call++) {
            x.set(0, call);
        }
        Edge.due("the 511th call: set(0, 511)", 510, x.set(0, 511));
        Edge.due("the 512th call: undo()", 5, x.undo());
        TideFares y = new TideFares();
        long digest = y.digest();
        for (int call = 2; call <= 512; call++) {
            Edge.due("the call " + call + ": digest()", digest, y.digest());
        }
    }

    private static void numbers() {
        Document.says("Terms", "All numbers are integers, but for a share; divisions are rounded down.");
        TideFares one = Checks.with("ab@0/1+1$1");
        Checks.holds("the share of one pair is no integer", one.joined() > 0.0 && one.joined() < 1.0);
        Document.says("Terms", "Times are minutes, from 0 on; money is coins.");
        Edge.due("leaves at the minute 0", 0, one.leaves(0, 0));
        Edge.due("a start at the minute 0", 1, one.soonest(0, 1, 0));
        Edge.refused(Edge::busy, Edge.ARGUMENT, "leaves(0, -1)", x -> x.leaves(0, -1));
    }

    private static void islands() {
        Document.says("Terms", "There are 8 islands, \"a\" to \"h\" (0 to 7).");
        for (int island = 0; island < 8; island++) {
            char sign = (char) ('a' + island);
            TideFares x = Checks.with(sign + (island == 0 ? "b" : "a") + "@0/1+1$0");
            Edge.due("the island " + sign + " as the first one", island, x.ferryOf(0, 0));
            TideFares y = Checks.with((island == 7 ? "g" : "h") + "" + sign + "@0/1+1$0");
            Edge.due("the island " + sign + " as the second one", island, y.ferryOf(0, 1));
            Edge.due("to itself: " + sign, 3, y.soonest(island, island, 3));
        }
        Edge.refused(Edge::busy, Edge.INDEX, "soonest(-1, 0, 0)", x -> x.soonest(-1, 0, 0));
        Edge.refused(Edge::busy, Edge.INDEX, "soonest(8, 0, 0)", x -> x.soonest(8, 0, 0));
        Edge.due("a sign ahead of a", 0, errorOf("`b"));
        Edge.due("a sign behind h", 0, errorOf("ib"));
    }

    private static int errorOf(String text) {
        TideFares x = new TideFares();
        Checks.type(x, text);
        return x.firstError();
    }

    /** At the minutes round each turn, told by hand. */
    private static void tideTurns() {
        Document.says("Terms", "The tide at a minute t is high if (t + setting 0) modulo 720 is below 360, "
                + "and low otherwise.");
        TideFares x = Checks.with("ab@0/1+1$0^;ab@0/1+1$0_");
        int[] high = {0, 1, 358, 359, 720, 721, 1078, 1079};
        int[] low = {360, 361, 718, 719, 1080, 1081, 1438, 1439};
        for (int minute : high) {
            Edge.due("high tide at " + minute, minute, x.leaves(0, minute));
            Checks.holds("no low tide at " + minute, x.leaves(1, minute) != minute);
        }
        for (int minute : low) {
            Edge.due("low tide at " + minute, minute, x.leaves(1, minute));
            Checks.holds("no high tide at " + minute, x.leaves(0, minute) != minute);
        }
        Edge.due("the next high tide from 360 on", 720, x.leaves(0, 360));
        Edge.due("the next low tide from 720 on", 1080, x.leaves(1, 720));
        Edge.due("no high tide any more from 1080 on", -1, x.leaves(0, 1080));
    }

    private static void tideByItsSetting() {
        Document.says("Terms", "The tide at a minute t is high if (t + setting 0) modulo 720 is below 360, and low "
                + "otherwise.");
        for (int tide : TIDES) {
            TideFares x = Checks.with("ab@0/1+1$0^;ab@0/1+1$0_");
            x.set(0, tide);
            for (int turn = 360; turn <= 2160; turn += 360) {
                for (int beside = -2; beside <= 1; beside++) {
                    int minute = turn + beside - tide;
                    if (minute >= 0 && minute <= 1439) {
                        boolean high = (minute + tide) % 720 < 360;
                        Edge.due("tide " + tide + ": it is high at " + minute, high ? 1 : 0,
                                x.leaves(0, minute) == minute ? 1 : 0);
                        Edge.due("tide " + tide + ": it is low at " + minute, high ? 0 : 1,
                                x.leaves(1, minute) == minute ? 1 : 0);
                    }
                }
            }
        }
    }

    private static void fourteenFerries() {
        Document.says("Terms", "There are at most 14 ferries, numbered from 0 in the order in which they were told;");
        TideFares x = Checks.with("ab@0/1+1$0;ab@1/1+1$0;ab@2/1+1$0");
        Edge.due("no ferry", 0, new TideFares().count(0));
        for (int told = 3; told < 13; told++) {
            Edge.due("told as the ferry " + told, told, x.ferry(0, 1, told, 1, 1, 0));
        }
        Checks.type(x, "ab@13/1+1$0");
        Edge.due("the 14th one, told by a text", 14, x.ferries());
        for (int ferry = 0; ferry < 14; ferry++) {
            Edge.due("the first minute of the ferry " + ferry, ferry, x.ferryOf(ferry, 2));
        }
        Edge.refused(Edge::full, Edge.STATE, "a 15th one", y -> y.ferry(0, 1, 0, 1, 1, 0));
        Edge.refused(Edge::full, Edge.STATE, "a 15th one by a text", TideEdges::tellOne);
        Edge.refused(Edge::full, Edge.INDEX, "ferryOf(14, 0)", y -> y.ferryOf(14, 0));
        Edge.refused(Edge::full, Edge.INDEX, "ferryOf(-1, 0)", y -> y.ferryOf(-1, 0));
    }

    /** The buffer is as it was if this is refused. */
    private static long tellOne(TideFares x) {
        Checks.type(x, "ab@0/1+1$0");
        try {
            return x.ferries();
        } finally {
            Edge.due("the buffer stays", 10, x.clearBuffer());
        }
    }

    private static void numbersBehindADrop() {
        Document.says("Terms", "if one is dropped, those behind it have numbers that are less by 1.");
        for (int dropped = 0; dropped < 14; dropped++) {
            TideFares x = Edge.full();
            x.drop(dropped);
            for (int ferry = 0; ferry < 13; ferry++) {
                Edge.due("the ferry " + ferry + " behind drop(" + dropped + ")",
                        20 + (ferry < dropped ? ferry : ferry + 1), x.ferryOf(ferry, 2));
            }
            Edge.due("the next one is the last one", 13, x.ferry(0, 1, 99, 1, 1, 0));
            Edge.due("the next one's first minute", 99, x.ferryOf(13, 2));
        }
    }

    private static void anotherIsland() {
        Document.says("Terms", "A ferry goes from an island to another one;");
        for (int from = 0; from < 8; from++) {
            for (int to = 0; to < 8; to++) {
                int a = from;
                int b = to;
                if (a == b) {
                    Edge.refused(TideFares::new, Edge.ARGUMENT, "a ferry to its own island " + a,
                            x -> x.ferry(a, b, 0, 1, 1, 0));
                } else {
                    TideFares x = new TideFares();
                    x.ferry(a, b, 0, 1, 1, 0);
                    Edge.due("from " + a + " to " + b, 1, x.soonest(a, b, 0));
                    Edge.due("not from " + b + " to " + a, -1, x.soonest(b, a, 0));
                }
            }
        }
    }

    private static void firstMinuteAndInterval() {
        Document.says("Terms", "has a first minute, 0 to 199, and an interval, 1 to 199:");
        Edge.range(Edge::busy, Edge.ARGUMENT, "a first minute", 0, 199, (x, first) -> {
            x.ferry(0, 1, first, 1, 1, 0);
            return x.leaves(4, 0);
        });
        Edge.range(Edge::busy, Edge.ARGUMENT, "an interval", 1, 199, (x, interval) -> {
            x.ferry(0, 1, 0, interval, 1, 0);
            return x.leaves(4, 1);
        });
    }

    private static void intervalsBehindTheFirst() {
        Document.says("Terms", "it leaves at the first minute, and one, two, three and so on intervals behind it;");
        int[][] timetables = {{0, 1}, {0, 199}, {1, 2}, {10, 30}, {100, 100}, {199, 1}, {199, 199}};
        for (int[] timetable : timetables) {
            TideFares x = new TideFares();
            x.ferry(0, 1, timetable[0], timetable[1], 1, 0);
            String call = "first " + timetable[0] + ", interval " + timetable[1] + ": leaves at ";
            Edge.due(call + "first", timetable[0], x.leaves(0, 0));
            for (int intervals = 0; intervals < 6; intervals++) {
                int minute = timetable[0] + intervals * timetable[1];
                Edge.due(call + minute, minute, x.leaves(0, minute));
                Edge.due(call + minute + " + 1", minute + timetable[1], x.leaves(0, minute + 1));
                if (minute > timetable[0]) {
                    int ahead = timetable[1] == 1 ? minute - 1 : minute;
                    Edge.due(call + minute + " - 1", ahead, x.leaves(0, minute - 1));
                } else if (minute > 0) {
                    Edge.due(call + "first - 1: not ahead of the first one", minute, x.leaves(0, minute - 1));
                }
            }
        }
    }

    private static void minutesAndFare() {
        Document.says("Terms", "needs 1 to 99 minutes;");
        Edge.range(Edge::busy, Edge.ARGUMENT, "the minutes that it needs", 1, 99, (x, needs) -> {
            x.ferry(0, 7, 0, 1, needs, 0);
            x.place(0, 0, 700, 0);
            long byWay = x.soonest(0, 7, 600) - 600;
            return x.take(0, 4) - 700 == byWay ? byWay : -1;
        });
        Document.says("Terms", "has a fare, 0 to 99;");
        Edge.range(Edge::busy, Edge.ARGUMENT, "a fare", 0, 99, (x, fare) -> {
            x.ferry(0, 7, 0, 1, 1, fare);
            x.place(0, 0, 59, fare);
            x.take(0, 4);
            return x.traveller(0, 2) == 0 ? x.traveller(0, 4) - 10 : -1;
        });
    }

    private static void kinds() {
        int[] minutes = {0, 359, 360, 719, 720, 1079, 1080, 1439};
        int[][] leaves = {{0, 359, 360, 719, 720, 1079, 1080, 1439}, {0, 359, 720, 720, 720, 1079, -1, -1},
            {360, 360, 360, 719, 1080, 1080, 1080, 1439}};
        String[] sentences = {"a kind: 0, it goes always;", "1, it leaves at high tide alone;",
            "2, at low tide alone (other leavings are cancelled);"};
        for (int kind = 0; kind < 3; kind++) {
            Document.says("Terms", sentences[kind]);
            TideFares x = Checks.with("ab@0/1+1$0");
            x.kind(0, kind);
            for (int i = 0; i < minutes.length; i++) {
                Edge.due("kind " + kind + ": leaves(0, " + minutes[i] + ")", leaves[kind][i], x.leaves(0, minutes[i]));
            }
        }
        TideFares x = Checks.with("ab@0/1+1$0");
        Edge.due("the kind at first", 0, x.ferryOf(0, 6));
    }

    /** A leaving that is cancelled is not put off to the turn of the tide: the timetable stays. */
    private static void cancelledLeavings() {
        Document.says("Terms", "(other leavings are cancelled);");
        TideFares x = Checks.with("ab@0/7+1$0^;ab@0/7+1$0_;ab@161/199+1$0_", "ab@160/199+1$0_;ab@162/199+1$0^");
        Edge.due("high tide: the last one ahead of 360", 357, x.leaves(0, 351));
        Edge.due("high tide: behind 357", 721, x.leaves(0, 358));
        Edge.due("low tide: the first one", 364, x.leaves(1, 0));
        Edge.due("low tide: the last one ahead of 720", 714, x.leaves(1, 714));
        Edge.due("low tide: behind 714", 1085, x.leaves(1, 715));
        Edge.due("low tide: one at 360 itself", 360, x.leaves(2, 0));
        Edge.due("low tide: one at 359 is cancelled", 558, x.leaves(3, 0));
        Edge.due("low tide: one at 757 is cancelled", 1155, x.leaves(3, 559));
        Edge.due("high tide: one at 361 is cancelled", 759, x.leaves(4, 163));
    }

    private static void clocks() {
        Document.says("Terms", "and a clock, which is 0 to 59 minutes fast, at first 0.");
        Edge.due("told by a call: at first 0", 0, Edge.full().ferryOf(13, 7));
        Edge.due("told by a text: at first 0", 0, Checks.with("ab@0/1+1$0").ferryOf(0, 7));
        Edge.range(Edge::busy, Edge.ARGUMENT, "a clock", 0, 59, (x, fast) -> {
            x.clock(0, fast);
            return x.ferryOf(0, 7);
        });
        TideFares x = Checks.with("ab@10/30+20$5");
        x.clock(0, 59);
        Edge.due("a clock does not change when it leaves", 10, x.leaves(0, 0));
    }

    /** Dear from the minute at which the hour of the ferry's own clock begins, to the 29th one behind it. */
    private static void dearByTheClock() {
        Document.says("Terms", "What a ferry costs if it leaves at the minute t is twice its fare, "
                + "if (t + its clock) modulo 60 is below setting 1, and its fare otherwise.");
        int[] clocks = {0, 1, 29, 30, 31, 58, 59};
        for (int clock : clocks) {
            TideFares x = Checks.with("ab@0/1+1$7");
            x.clock(0, clock);
            for (int hour = 60; hour <= 1440; hour += 460) {
                int begin = hour / 60 * 60 - clock;
                String call = "clock " + clock + ": the hour begins at " + begin + ": costs at ";
                Edge.due(call + "-1", 7, x.costs(0, begin - 1));
                if (begin <= 1439) {
                    Edge.due(call + "0", 14, x.costs(0, begin));
                }
                if (begin + 30 <= 1439) {
                    Edge.due(call + "1", 14, x.costs(0, begin + 1));
                    Edge.due(call + "29", 14, x.costs(0, begin + 29));
                    Edge.due(call + "30", 7, x.costs(0, begin + 30));
                }
            }
            Edge.due("clock " + clock + ": costs at 0", clock < 30 ? 14 : 7, x.costs(0, 0));
            Edge.due("clock " + clock + ": costs at 1439", clock == 0 || clock > 30 ? 7 : 14, x.costs(0, 1439));
        }
    }

    private static void dearByTheSetting() {
        Document.says("Terms", "What a ferry costs if it leaves at the minute t is twice its fare, if (t + its "
                + "clock) modulo 60 is below setting 1, and its fare otherwise.");
        int[] settings = {0, 1, 2, 29, 30, 31, 58, 59, 60};
        for (int dear : settings) {
            TideFares x = Checks.with("ab@0/1+1$7;ab@0/1+1$0;ab@0/1+1$99");
            x.set(1, dear);
            int[] minutes = {0, 1, 58, 59, dear - 1, dear, dear + 1};
            for (int ofHour : minutes) {
                if (ofHour >= 0 && ofHour <= 59) {
                    int times = ofHour < dear ? 2 : 1;
                    String call = dear + " dear minutes: costs at " + ofHour;
                    Edge.due(call, 7 * times, x.costs(0, ofHour));
                    Edge.due(call + ", 23 hours later", 7 * times, x.costs(0, 1380 + ofHour));
                    Edge.due(call + ", without a fare", 0, x.costs(1, ofHour));
                    Edge.due(call + ", at the greatest fare", 99 * times, x.costs(2, ofHour));
                }
            }
        }
    }

    private static void lastMinute() {
        Document.says("Terms", "No ferry leaves behind the minute 1439.");
        TideFares x = Checks.with("ab@0/1+1$0;ab@9/11+1$0;ab@8/12+1$0;ab@0/10+1$0;ab@46/199+1$0");
        Edge.due("each minute: 1438", 1438, x.leaves(0, 1438));
        Edge.due("each minute: 1439", 1439, x.leaves(0, 1439));
        Edge.due("each minute: 1440", -1, x.leaves(0, 1440));
        Edge.due("one at 1439", 1439, x.leaves(1, 1429));
        Edge.due("one at 1448 alone", 1436, x.leaves(2, 1436));
        Edge.due("one at 1448 alone", -1, x.leaves(2, 1437));
        Edge.due("one at 1430", 1430, x.leaves(3, 1430));
        Edge.due("one at 1440 does not go", -1, x.leaves(3, 1431));
        Edge.due("one at 1439 by long intervals", 1439, x.leaves(4, 1241));
        x.set(0, 360);
        x.kind(0, 1);
        x.kind(1, 2);
        Edge.due("tide 360: high at 1439", 1439, x.leaves(0, 1439));
        Edge.due("tide 360: low tide would come behind 1439", -1, x.leaves(1, 1080));
        x.set(0, 1);
        Edge.due("tide 1: high tide would come back at 1439", 1439, x.leaves(0, 1079));
        x.set(0, 0);
        Edge.due("tide 0: high tide would come back at 1440", -1, x.leaves(0, 1080));
    }

    private static void lastMinuteOfWays() {
        Document.says("Terms", "No ferry leaves behind the minute 1439.");
        TideFares x = Checks.with("ab@0/1+99$0;bc@0/1+99$0");
        Edge.due("a way at 1439", 1538, x.soonest(0, 1, 1439));
        Edge.due("a second ferry would leave at 1439", 1538, x.soonest(0, 2, 1340));
        Edge.due("a second ferry would leave at 1440", -1, x.soonest(0, 2, 1341));
        Edge.due("cheapest at 1439", 0, x.cheapest(0, 1, 1439, 1538));
        Edge.due("cheapest: a second ferry at 1439", 0, x.cheapest(0, 2, 1340, 1539));
        Edge.due("cheapest: a second ferry at 1440", -1, x.cheapest(0, 2, 1341, 1539));
        Edge.due("the last start of all", 1439, x.lastStart(0, 1, 1539));
        Edge.due("the last start with a second ferry", 1340, x.lastStart(0, 2, 1539));
        x.place(0, 0, 1439, 0);
        x.place(1, 0, 1340, 0);
        x.place(2, 0, 1341, 0);
        Edge.due("reach at 1439", 3, x.reach(0));
        Edge.due("reach at 1340", 7, x.reach(1));
        Edge.due("reach at 1341", 3, x.reach(2));
        Edge.due("taken at 1439", 1538, x.take(0, 0));
        x.take(2, 0);
        Edge.due("a second ferry at 1440 is none", 2, x.refusal(2, 1));
        x.take(1, 0);
        Edge.due("a second ferry at 1439", 1538, x.take(1, 1));
    }

    private static void waits() {
        Document.says("Terms", "A way begins on an island at a minute; one who is on an island can wait, "
                + "and take any ferry from there when it leaves,");
        TideFares x = Checks.with("ab@50/100+40$5;ab@30/199+99$2");
        Edge.due("waits for the one that comes sooner", 90, x.soonest(0, 1, 0));
        Edge.due("is there just as it leaves", 90, x.soonest(0, 1, 50));
        Edge.due("waits for the next one", 190, x.soonest(0, 1, 51));
        Edge.due("can take the one for 5", 5, x.cheapest(0, 1, 0, 128));
        Edge.due("can take the one for 2", 2, x.cheapest(0, 1, 0, 129));
        Edge.due("can take any one: the last start", 50, x.lastStart(0, 1, 129));
        x.place(0, 0, 31, 2);
        x.place(1, 0, 31, 1);
        Edge.due("waits for the one for 2", 3, x.reach(0));
        Edge.due("there is none for 1", 1, x.reach(1));
        TideFares dear = Checks.with("ab@0/10+10$5");
        Edge.due("no time to wait till the dear half hour is over", 10, dear.cheapest(0, 1, 60, 99));
        Edge.due("waits till the dear half hour is over", 5, dear.cheapest(0, 1, 60, 100));
    }

    /** A ferry that leaves as the other one comes is had; one that leaves a minute ahead is missed. */
    private static void atOnce() {
        Document.says("Terms", "at once when another one has come. (There is no need of time to change.)");
        TideFares x = Checks.with("ab@0/100+40$0;bc@40/199+5$0");
        TideFares missed = Checks.with("ab@0/100+40$0;bc@39/199+5$0");
        TideFares late = Checks.with("ab@0/100+40$0;bc@41/199+5$0");
        Edge.due("soonest, at once", 45, x.soonest(0, 2, 0));
        Edge.due("soonest, a minute missed", 243, missed.soonest(0, 2, 0));
        Edge.due("soonest, a minute's wait", 46, late.soonest(0, 2, 0));
        Edge.due("cheapest, at once", 0, x.cheapest(0, 2, 0, 45));
        Edge.due("cheapest, a minute missed", -1, missed.cheapest(0, 2, 0, 242));
        Edge.due("cheapest, a minute's wait", -1, late.cheapest(0, 2, 0, 45));
        Edge.due("lastStart, at once", 0, x.lastStart(0, 2, 45));
        Edge.due("lastStart, a minute missed", -1, missed.lastStart(0, 2, 45));
        Edge.due("lastStart, a minute's wait", 0, late.lastStart(0, 2, 46));
        x.take(0, 0);
        missed.take(0, 0);
        late.take(0, 0);
        Edge.due("take, at once", 45, x.take(0, 1));
        Edge.due("take, a minute missed", 243, missed.take(0, 1));
        Edge.due("take, a minute's wait", 46, late.take(0, 1));
    }
}
