/** Promises 22 to 27: the soonest way, the cheapest one, what can be reached, last starts, and the digest. */
public final class WaysTest {
    public static void main(String[] args) {
        soonest();
        cheapest();
        cheapestWaits();
        cheapestAtOnce();
        longWays();
        reach();
        lastStart();
        joined();
        digest();
        digestByTheMinute();
        digestOfBuffer();
        Checks.end("WaysTest");
    }

    private static void soonest() {
        TideFares x = Checks.with("ab@10/30+20$5;bc@30/45+10$8;ac@5/100+70$3;cd@20/60+15$10_");
        Checks.due("soonest(0, 0, 5)", 5, x.soonest(0, 0, 5));
        Checks.due("soonest(0, 1, 0)", 30, x.soonest(0, 1, 0));
        Checks.due("soonest(0, 2, 0): at once from b", 40, x.soonest(0, 2, 0));
        Checks.due("soonest(0, 2, 11)", 85, x.soonest(0, 2, 11));
        Checks.due("soonest(0, 2, 10)", 40, x.soonest(0, 2, 10));
        Checks.due("soonest(0, 2, 101): the one that is direct", 175, x.soonest(0, 2, 101));
        Checks.due("soonest(0, 3, 0): at low tide", 395, x.soonest(0, 3, 0));
        Checks.due("soonest(3, 0, 0)", -1, x.soonest(3, 0, 0));
        Checks.due("soonest(0, 1, 1420)", 1440, x.soonest(0, 1, 1420));
        Checks.due("soonest(0, 1, 1421)", -1, x.soonest(0, 1, 1421));
        Checks.due("soonest(7, 7, 1439)", 1439, x.soonest(7, 7, 1439));
        x.kind(0, 1);
        Checks.due("soonest: a ferry is missed by the tide", 750, x.soonest(0, 1, 360));
        Checks.noIndex(x, "soonest(-1, 0, 0)", () -> x.soonest(-1, 0, 0));
        Checks.noIndex(x, "soonest(8, 0, 0)", () -> x.soonest(8, 0, 0));
        Checks.noIndex(x, "soonest(0, -1, 0)", () -> x.soonest(0, -1, 0));
        Checks.noIndex(x, "soonest(0, 8, 1440)", () -> x.soonest(0, 8, 1440));
        Checks.noArgument(x, "soonest(0, 1, -1)", () -> x.soonest(0, 1, -1));
        Checks.noArgument(x, "soonest(0, 1, 1440)", () -> x.soonest(0, 1, 1440));
        long before = x.digest();
        x.soonest(0, 3, 0);
        Checks.due("soonest changes nothing", before, x.digest());
    }

    private static void cheapest() {
        TideFares x = Checks.with("ab@0/10+10$5;ab@0/60+5$7");
        Checks.due("cheapest: at the island", 0, x.cheapest(0, 0, 9, 9));
        Checks.due("cheapest(0, 1, 0, 40)", 5, x.cheapest(0, 1, 0, 40));
        Checks.due("cheapest(0, 1, 0, 39)", 10, x.cheapest(0, 1, 0, 39));
        Checks.due("cheapest(0, 1, 0, 10)", 10, x.cheapest(0, 1, 0, 10));
        Checks.due("cheapest(0, 1, 0, 9)", 14, x.cheapest(0, 1, 0, 9));
        Checks.due("cheapest(0, 1, 0, 4)", -1, x.cheapest(0, 1, 0, 4));
        Checks.due("cheapest(1, 0, 0, 1539)", -1, x.cheapest(1, 0, 0, 1539));
        Checks.due("cheapest(0, 1, 1430, 1440)", 5, x.cheapest(0, 1, 1430, 1440));
        Checks.due("cheapest(0, 1, 1431, 1539)", -1, x.cheapest(0, 1, 1431, 1539));
        x.clock(1, 30);
        Checks.due("cheapest: by another clock", 7, x.cheapest(0, 1, 0, 9));
        Checks.noIndex(x, "cheapest(-1, ..)", () -> x.cheapest(-1, 0, 0, 0));
        Checks.noIndex(x, "cheapest(8, ..)", () -> x.cheapest(8, 0, 0, 0));
        Checks.noIndex(x, "cheapest(0, -1, ..)", () -> x.cheapest(0, -1, 0, 0));
        Checks.noIndex(x, "cheapest(0, 8, -1, ..)", () -> x.cheapest(0, 8, -1, 0));
        Checks.noArgument(x, "cheapest(.., -1, 5)", () -> x.cheapest(0, 1, -1, 5));
        Checks.noArgument(x, "cheapest(.., 1440, 1500)", () -> x.cheapest(0, 1, 1440, 1500));
        Checks.noArgument(x, "cheapest(.., 10, 9)", () -> x.cheapest(0, 1, 10, 9));
        Checks.noArgument(x, "cheapest(.., 0, 1540)", () -> x.cheapest(0, 1, 0, 1540));
        Checks.noArgument(x, "cheapest(0, 0, 10, 9)", () -> x.cheapest(0, 0, 10, 9));
    }

    private static void cheapestWaits() {
        TideFares x = Checks.with("ab@0/60+20$50;ac@25/199+5$2;cb@59/199+60$3;bd@120/199+1$9");
        Checks.due("cheapest: by way of c, too late for 118", 100, x.cheapest(0, 1, 0, 118));
        Checks.due("cheapest: by way of c", 7, x.cheapest(0, 1, 0, 119));
        Checks.due("cheapest: from b on, at once when it comes", 25, x.cheapest(0, 3, 0, 121));
        x.clock(2, 30);
        Checks.due("cheapest: c is dear by its own clock", 10, x.cheapest(0, 1, 0, 119));
        TideFares missed = Checks.with("ab@0/1+99$1;bc@99/199+1$1;bc@100/199+1$40");
        missed.set(1, 0);
        Checks.due("cheapest: just in time", 2, missed.cheapest(0, 2, 0, 1539));
        Checks.due("cheapest: a minute too late, by 101", 41, missed.cheapest(0, 2, 1, 101));
        Checks.due("cheapest: a minute too late, by 299", 2, missed.cheapest(0, 2, 1, 299));
    }

    private static void cheapestAtOnce() {
        TideFares x = Checks.with("ab@0/1+1$5");
        Checks.due("cheapest: a minute's wait, by 30", 10, x.cheapest(0, 1, 29, 30));
        Checks.due("cheapest: a minute's wait, by 31", 5, x.cheapest(0, 1, 29, 31));
        Checks.due("cheapest: at 59", 5, x.cheapest(0, 1, 59, 60));
        Checks.due("cheapest: at 60", 10, x.cheapest(0, 1, 60, 90));
        Checks.due("cheapest: at 60, by 91", 5, x.cheapest(0, 1, 60, 91));
        TideFares two = Checks.with("ba@0/199+5$3;ba@0/199+5$9;ba@0/199+5$4");
        Checks.due("cheapest: of three that come together", 6, two.cheapest(1, 0, 0, 5));
        Checks.due("cheapest: later on", 3, two.cheapest(1, 0, 100, 1539));
        Checks.due("cheapest: as at first", 6, two.cheapest(1, 0, 0, 5));
        TideFares late = Checks.with("ab@10/30+20$5");
        Checks.due("cheapest: too short a time", -1, late.cheapest(0, 1, 0, 5));
        Checks.due("cheapest: behind a search that ended early", 5, late.cheapest(0, 1, 11, 1539));
        TideFares many = Checks.with("ab@0/1+1$5");
        for (int ferry = 1; ferry < 14; ferry++) {
            many.ferry(2, 3, 0, 1, 1, 1);
        }
        many.set(1, 1);
        Checks.due("cheapest of 14: dear in one minute of the hour", 5, many.cheapest(0, 1, 60, 62));
        two.set(1, 60);
        Checks.due("cheapest: always dear", 6, two.cheapest(1, 0, 0, 1539));
        two.set(1, 1);
        two.clock(0, 1);
        Checks.due("cheapest: dear in one minute of the hour", 3, two.cheapest(1, 0, 0, 5));
    }

    /** A way of seven ferries, told from its beginning on and from its end on. */
    private static void longWays() {
        for (int order = 0; order < 2; order++) {
            TideFares x = new TideFares();
            for (int ferry = 0; ferry < 7; ferry++) {
                int from = order == 0 ? ferry : 6 - ferry;
                x.ferry(from, from + 1, from, 10, 1, 1);
            }
            Checks.due("seven ferries: soonest", 7, x.soonest(0, 7, 0));
            Checks.due("seven ferries: soonest a minute later", 17, x.soonest(0, 7, 1));
            Checks.due("seven ferries: cheapest in the dear half hour", 14, x.cheapest(0, 7, 0, 30));
            Checks.due("seven ferries: cheapest", 7, x.cheapest(0, 7, 0, 37));
            Checks.due("seven ferries: lastStart by 17", 10, x.lastStart(0, 7, 17));
            Checks.due("seven ferries: lastStart by 16", 0, x.lastStart(0, 7, 16));
            Checks.due("seven ferries: lastStart by 6", -1, x.lastStart(0, 7, 6));
            Checks.due("seven ferries: reach", 255, x.reach(0));
            Checks.dueShare("seven ferries: joined", 28.0 / 56.0, x.joined());
            Checks.due("seven ferries: digest", listed(x, ""), x.digest());
        }
    }

    private static void reach() {
        TideFares x = Checks.with("ab@0/10+5$10;bc@0/10+5$10;cd@0/10+5$10_");
        Checks.due("reach(0) with 50", 15, x.reach(0));
        x.place(0, 0, 0, 30);
        Checks.due("reach(0) with 30: one can wait", 15, x.reach(0));
        x.place(0, 0, 0, 29);
        Checks.due("reach(0) with 29", 7, x.reach(0));
        x.place(0, 0, 0, 9);
        Checks.due("reach(0) with 9", 1, x.reach(0));
        x.place(0, 2, 1430, 10);
        Checks.due("reach(0) at 1430", 12, x.reach(0));
        x.place(0, 2, 1431, 999);
        Checks.due("reach(0) at 1431", 4, x.reach(0));
        x.place(0, 0, 1080, 999);
        Checks.due("reach(0) at 1080, low tide", 15, x.reach(0));
        x.place(3, 2, 1430, 999);
        x.take(3, 2);
        Checks.due("reach(3) at 1435", 8, x.reach(3));
        TideFares late = Checks.with("ab@0/1+99$0;ba@0/1+1$0");
        late.place(1, 0, 1439, 0);
        late.take(1, 0);
        Checks.due("reach at 1538", 2, late.reach(1));
        Checks.noIndex(x, "reach(-1)", () -> x.reach(-1));
        Checks.noIndex(x, "reach(4)", () -> x.reach(4));
    }

    private static void lastStart() {
        TideFares x = Checks.with("ab@10/30+20$5;bc@30/45+10$8;cd@20/60+15$10_");
        Checks.due("lastStart(0, 1, 29)", -1, x.lastStart(0, 1, 29));
        Checks.due("lastStart(0, 1, 30)", 10, x.lastStart(0, 1, 30));
        Checks.due("lastStart(0, 1, 59)", 10, x.lastStart(0, 1, 59));
        Checks.due("lastStart(0, 1, 60)", 40, x.lastStart(0, 1, 60));
        Checks.due("lastStart(0, 1, 1539)", 1420, x.lastStart(0, 1, 1539));
        Checks.due("lastStart(0, 2, 40)", 10, x.lastStart(0, 2, 40));
        Checks.due("lastStart(0, 2, 84)", 10, x.lastStart(0, 2, 84));
        Checks.due("lastStart(0, 2, 85)", 40, x.lastStart(0, 2, 85));
        Checks.due("lastStart(0, 3, 394)", -1, x.lastStart(0, 3, 394));
        Checks.due("lastStart(0, 3, 395)", 310, x.lastStart(0, 3, 395));
        Checks.due("lastStart(2, 3, 1000): low tide ends at 719", 680, x.lastStart(2, 3, 1000));
        Checks.due("lastStart(3, 0, 1539)", -1, x.lastStart(3, 0, 1539));
        Checks.due("lastStart(0, 1, 0)", -1, x.lastStart(0, 1, 0));
        Checks.noIndex(x, "lastStart(-1, ..)", () -> x.lastStart(-1, 0, 0));
        Checks.noIndex(x, "lastStart(8, 8, ..)", () -> x.lastStart(8, 8, 0));
        Checks.noIndex(x, "lastStart(0, -1, ..)", () -> x.lastStart(0, -1, 0));
        Checks.noIndex(x, "lastStart(0, 8, 1540)", () -> x.lastStart(0, 8, 1540));
        Checks.noArgument(x, "lastStart(2, 2, ..)", () -> x.lastStart(2, 2, 100));
        Checks.noArgument(x, "lastStart(.., -1)", () -> x.lastStart(0, 1, -1));
        Checks.noArgument(x, "lastStart(.., 1540)", () -> x.lastStart(0, 1, 1540));
        TideFares tides = Checks.with("ab@0/1+1$0^;bc@0/1+1$0_;cd@5/199+1$0_");
        Checks.due("lastStart by high tide alone", 359, tides.lastStart(0, 1, 700));
        Checks.due("lastStart by high tide alone: 360", 359, tides.lastStart(0, 1, 360));
        Checks.due("lastStart by high tide alone: 359", 358, tides.lastStart(0, 1, 359));
        Checks.due("lastStart by high tide alone: 721", 720, tides.lastStart(0, 1, 721));
        Checks.due("lastStart by low tide alone", 719, tides.lastStart(1, 2, 1000));
        Checks.due("lastStart by low tide alone: none by 360", -1, tides.lastStart(1, 2, 360));
        Checks.due("lastStart by low tide alone: 361", 360, tides.lastStart(1, 2, 361));
        Checks.due("lastStart by low tide alone: none by 206", -1, tides.lastStart(2, 3, 206));
        Checks.due("lastStart by both tides", 359, tides.lastStart(0, 2, 1080));
        tides.set(0, 1);
        Checks.due("lastStart by tides a minute ahead", 358, tides.lastStart(0, 1, 700));
        TideFares each = Checks.with("ab@0/1+1$0");
        Checks.due("lastStart: the last minute of all", 1439, each.lastStart(0, 1, 1440));
        Checks.due("lastStart: the minute 0", 0, each.lastStart(0, 1, 1));
    }

    private static void joined() {
        TideFares x = new TideFares();
        Checks.dueShare("joined of none", 0.0, x.joined());
        x.ferry(0, 1, 0, 10, 5, 3);
        Checks.dueShare("joined: one pair", 1.0 / 56.0, x.joined());
        x.ferry(1, 2, 0, 10, 5, 3);
        Checks.dueShare("joined: three pairs", 3.0 / 56.0, x.joined());
        x.ferry(0, 1, 0, 10, 5, 3);
        Checks.dueShare("joined: three pairs still", 3.0 / 56.0, x.joined());
        for (int island = 2; island < 8; island++) {
            x.ferry(island, (island + 1) % 8, 0, 10, 5, 3);
        }
        Checks.dueShare("joined: all pairs", 1.0, x.joined());
        TideFares late = Checks.with("ab@199/199+99$9_;bc@0/199+1$9^;cd@0/199+1$9_");
        Checks.dueShare("joined: by tides", 6.0 / 56.0, late.joined());
        late.set(0, 360);
        Checks.dueShare("joined: by tides the other way round", 6.0 / 56.0, late.joined());
        TideFares atFirst = Checks.with("ab@0/199+1$9^;bc@1/199+1$9_;cd@0/199+1$9^;de@0/199+1$9_");
        atFirst.set(0, 359);
        Checks.dueShare("joined: e can be had from a by the ferry at 0 alone", 10.0 / 56.0, atFirst.joined());
        TideFares missed = Checks.with("ab@0/199+1$9_;bc@0/199+1$9^;cd@0/199+1$9_;de@0/199+1$9^");
        Checks.dueShare("joined: e is missed from a alone", 9.0 / 56.0, missed.joined());
    }

    /** Ferries that tell 59, 60 and 61 apart, and 29 to 31, 399 to 401, 599 to 601. */
    private static void digestByTheMinute() {
        TideFares x = Checks.with("ab@0/1+1$1;ac@30/199+1$5;ad@29/199+1$5");
        Checks.type(x, "ae@1/100+99$5;af@2/100+99$5");
        x.ferries();
        int[] clocks = {0, 15, 16, 45, 44};
        for (int ferry = 0; ferry < 5; ferry++) {
            x.clock(ferry, clocks[ferry]);
        }
        x.set(1, 45);
        int[] cheapest = {1, 5, 10, 5, 10};
        for (int island = 1; island < 6; island++) {
            Checks.due("cheapest(0, " + island + ", 30, 400)", cheapest[island - 1], x.cheapest(0, island, 30, 400));
        }
        Checks.due("digest by the minute", listed(x, ""), x.digest());
        x.set(1, 1);
        Checks.due("digest: dear at 60 alone", listed(x, ""), x.digest());
        x.clock(0, 59);
        Checks.due("digest: dear at 61 alone", listed(x, ""), x.digest());
    }

    private static long mix(long hash, long value) {
        return 31 * hash + value;
    }

    /** The digest as the document lists it, from what the other calls answer. */
    static long listed(TideFares x, String buffer) {
        long hash = 3301;
        for (int what = 0; what < 5; what++) {
            hash = mix(hash, x.count(what));
        }
        hash = mix(mix(hash, x.setting(0)), x.setting(1));
        for (int ferry = 0; ferry < x.count(0); ferry++) {
            for (int what = 0; what < 9; what++) {
                hash = mix(hash, x.ferryOf(ferry, what));
            }
            hash = mix(mix(hash, x.leaves(ferry, 60)), x.costs(ferry, 60));
        }
        for (int traveller = 0; traveller < 4; traveller++) {
            for (int what = 0; what < 5; what++) {
                hash = mix(hash, x.traveller(traveller, what));
            }
            hash = mix(hash, x.reach(traveller));
        }
        for (int island = 1; island < 8; island++) {
            hash = mix(hash, x.soonest(0, island, 30));
            hash = mix(hash, x.cheapest(0, island, 30, 400));
            hash = mix(hash, x.lastStart(0, island, 600));
        }
        hash = mix(hash, Double.doubleToLongBits(x.joined()));
        hash = mix(hash, buffer.length());
        for (int i = 0; i < buffer.length(); i++) {
            hash = mix(hash, buffer.charAt(i));
        }
        return hash;
    }

    private static void digest() {
        for (int ferries = 0; ferries <= 14; ferries++) {
            TideFares some = unlike(ferries);
            Checks.due("digest with " + ferries + " ferries", listed(some, ""), some.digest());
        }
        TideFares x = unlike(14);
        x.set(0, 100);
        x.set(1, 20);
        x.kind(3, 1);
        x.clock(3, 33);
        x.place(2, 5, 600, 77);
        x.take(0, 0);
        Checks.due("digest behind many calls", listed(x, ""), x.digest());
        Checks.due("digest changes nothing", x.digest(), x.digest());
    }

    /** So many ferries, each unlike the others. */
    private static TideFares unlike(int ferries) {
        TideFares x = new TideFares();
        for (int ferry = 0; ferry < ferries; ferry++) {
            int to = (ferry * 3 + 1) % 8;
            x.ferry(ferry % 8, to == ferry % 8 ? 7 - to : to, ferry * 7, 13 + ferry, 10 + ferry, ferry * 2);
        }
        return x;
    }

    private static void digestOfBuffer() {
        TideFares x = new TideFares();
        Checks.type(x, "a~!b");
        Checks.due("digest with a buffer", listed(x, "a~!b"), x.digest());
        x.clearBuffer();
        Checks.due("digest with a buffer that is cleared", listed(x, ""), x.digest());
        // By hand: without ferries all ways are NONE, and each traveller is on the island 0.
        long hash = 3301;
        int[] head = {0, 0, 0, 200, 0, 0, 30};
        for (int value : head) {
            hash = mix(hash, value);
        }
        int[] traveller = {0, 0, 50, 0, 0, 1};
        for (int i = 0; i < 24; i++) {
            hash = mix(hash, traveller[i % 6]);
        }
        for (int i = 0; i < 21; i++) {
            hash = mix(hash, -1);
        }
        hash = mix(mix(hash, 0), 0);
        Checks.due("digest of a new object, by hand", hash, x.digest());
    }
}
