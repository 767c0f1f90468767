/** All promises: runs of calls by a counter that is scrambled, on the class and on the plain model alike. */
public final class ModelTest {
    private static final int RUNS = 100;
    private static final int WAYS_RUNS = 60;
    private static final int CALLS = 512;
    // The model tries every minute for the last starts of a digest, so not each run has one.
    private static final int RUNS_BY_DIGEST = 4;

    private static long seed;
    private static TideFares made;
    private static PlainModel model;
    private static int wrong;
    private static int calls;

    /** A number from least to most; the same ones in each run of this test. */
    private static int pick(int least, int most) {
        seed = seed * 6364136223846793005L + 1442695040888963407L;
        return least + (int) ((seed >>> 33) % (most - least + 1));
    }

    /** Mostly in the range, at times an edge of it or a number beyond. */
    private static int near(int least, int most) {
        switch (pick(0, 40)) {
            case 0:
                return least - 1;
            case 1:
                return most + 1;
            case 2:
                return pick(0, 1) == 0 ? Integer.MIN_VALUE : Integer.MAX_VALUE;
            case 3:
            case 4:
                return least;
            case 5:
            case 6:
                return most;
            default:
                return pick(least, most);
        }
    }

    private static int someFerry() {
        return near(0, Math.max(model.count(0) - 1, 0));
    }

    private static String outcome(Checks.Call call) {
        try {
            return String.valueOf(call.answer());
        } catch (IndexOutOfBoundsException | IllegalArgumentException | IllegalStateException e) {
            return e.getClass().getSimpleName();
        }
    }

    private static void same(int run, String call, Checks.Call ofClass, Checks.Call ofModel) {
        calls++;
        String got = outcome(ofClass);
        String due = outcome(ofModel);
        if (!got.equals(due)) {
            wrong++;
            if (wrong < 20) {
                System.out.println("  run " + run + ": " + call + " answered " + got + ", due is " + due);
            }
        }
    }

    private static void type(int run, String text) {
        for (int i = 0; i < text.length(); i++) {
            int code = text.charAt(i);
            same(run, "append(" + code + ")", () -> made.append(code), () -> model.append(code));
        }
    }

    private static String somePart() {
        int from = pick(0, 7);
        StringBuilder part = new StringBuilder();
        part.append((char) ('a' + from)).append((char) ('a' + (from + pick(1, 7)) % 8));
        part.append('@').append(pick(0, 1) == 0 ? pick(0, 9) : pick(0, 199));
        part.append('/').append(pick(1, pick(0, 1) == 0 ? 9 : 199));
        part.append('+').append(pick(1, 99)).append('$').append(pick(0, 99));
        return part.append(new String[] {"", "^", "_"}[pick(0, 2)]).toString();
    }

    private static void texts(int run) {
        switch (pick(0, 5)) {
            case 0:
                same(run, "clearBuffer()", () -> made.clearBuffer(), () -> model.clearBuffer());
                break;
            case 1:
                type(run, somePart());
                break;
            case 2:
                type(run, somePart() + ";" + somePart());
                break;
            case 3:
                String signs = "abcdefgh@/+$^_;0123456789";
                type(run, signs.substring(pick(0, 24)).substring(0, 1));
                break;
            case 4:
                int code = near(33, 126);
                same(run, "append(" + code + ")", () -> made.append(code), () -> model.append(code));
                break;
            default:
                same(run, "ferries()", () -> made.ferries(), () -> model.ferries());
                same(run, "clearBuffer()", () -> made.clearBuffer(), () -> model.clearBuffer());
        }
        same(run, "firstError()", () -> made.firstError(), () -> model.firstError());
    }

    private static void changes(int run) {
        int a = near(0, 7);
        int b = near(0, 7);
        int ferry = someFerry();
        int traveller = near(0, 3);
        switch (pick(0, 11)) {
            case 0:
            case 1:
            case 2:
                int first = near(0, 199);
                int interval = near(1, 199);
                int needs = near(1, 99);
                int fare = near(0, 99);
                same(run, "ferry(" + a + ", " + b + ", " + first + ", " + interval + ", " + needs + ", " + fare + ")",
                        () -> made.ferry(a, b, first, interval, needs, fare),
                        () -> model.ferry(a, b, first, interval, needs, fare));
                break;
            case 3:
                same(run, "drop(" + ferry + ")", () -> made.drop(ferry), () -> model.drop(ferry));
                break;
            case 4:
                int kind = near(0, 2);
                same(run, "kind(" + ferry + ", " + kind + ")", () -> made.kind(ferry, kind),
                        () -> model.kind(ferry, kind));
                break;
            case 5:
                int fast = near(0, 59);
                same(run, "clock(" + ferry + ", " + fast + ")", () -> made.clock(ferry, fast),
                        () -> model.clock(ferry, fast));
                break;
            case 6:
                int setting = near(0, 1);
                int value = near(0, setting == 1 ? 60 : 719);
                same(run, "set(" + setting + ", " + value + ")", () -> made.set(setting, value),
                        () -> model.set(setting, value));
                break;
            case 7:
            case 8:
                int minute = near(0, 1439);
                int purse = near(0, 999);
                same(run, "place(" + traveller + ", " + a + ", " + minute + ", " + purse + ")",
                        () -> made.place(traveller, a, minute, purse), () -> model.place(traveller, a, minute, purse));
                break;
            case 9:
                int minutes = near(1, 720);
                same(run, "rest(" + traveller + ", " + minutes + ")", () -> made.rest(traveller, minutes),
                        () -> model.rest(traveller, minutes));
                break;
            case 10:
                same(run, "undo()", () -> made.undo(), () -> model.undo());
                break;
            default:
                for (int each = 0; each < 14; each++) {
                    int taken = each;
                    same(run, "take(" + traveller + ", " + taken + ")", () -> made.take(traveller, taken),
                            () -> model.take(traveller, taken));
                }
        }
    }

    private static void looks(int run) {
        int ferry = someFerry();
        int traveller = near(0, 3);
        int what = near(0, 8);
        int minute = near(0, 1539);
        same(run, "ferryOf(" + ferry + ", " + what + ")", () -> made.ferryOf(ferry, what),
                () -> model.ferryOf(ferry, what));
        same(run, "traveller(" + traveller + ", " + what + ")", () -> made.traveller(traveller, what),
                () -> model.traveller(traveller, what));
        same(run, "leaves(" + ferry + ", " + minute + ")", () -> made.leaves(ferry, minute),
                () -> model.leaves(ferry, minute));
        same(run, "costs(" + ferry + ", " + minute + ")", () -> made.costs(ferry, minute),
                () -> model.costs(ferry, minute));
        same(run, "count(" + what + ")", () -> made.count(what), () -> model.count(what));
        same(run, "setting(" + what + ")", () -> made.setting(what), () -> model.setting(what));
        same(run, "refusal(" + traveller + ", " + ferry + ")", () -> made.refusal(traveller, ferry),
                () -> model.refusal(traveller, ferry));
    }

    private static void ways(int run) {
        int from = near(0, 7);
        int to = near(0, 7);
        int minute = pick(0, 2) == 0 ? near(0, 1439) : pick(0, 300);
        int limit = near(0, 1539);
        int traveller = near(0, 3);
        same(run, "soonest(" + from + ", " + to + ", " + minute + ")", () -> made.soonest(from, to, minute),
                () -> model.soonest(from, to, minute));
        same(run, "cheapest(" + from + ", " + to + ", " + minute + ", " + limit + ")",
                () -> made.cheapest(from, to, minute, limit), () -> model.cheapest(from, to, minute, limit));
        same(run, "reach(" + traveller + ")", () -> made.reach(traveller), () -> model.reach(traveller));
        if (pick(0, 20) == 0) {
            same(run, "lastStart(" + from + ", " + to + ", " + limit + ")", () -> made.lastStart(from, to, limit),
                    () -> model.lastStart(from, to, limit));
        }
        if (pick(0, 10) == 0) {
            same(run, "joined()", () -> Double.doubleToLongBits(made.joined()),
                    () -> Double.doubleToLongBits(model.joined()));
        }
    }

    /** Many ferries of one style, and the ways by them. */
    private static void waysRun(int run) {
        int most = pick(0, 14);
        int style = run % 4;
        for (int told = 0; told < most; told++) {
            int number = told;
            int from = style == 1 ? told % 8 : pick(0, 7);
            int to = (from + (style == 1 ? 1 : pick(1, 7))) % 8;
            int first = pick(0, 199);
            int interval = pick(1, style == 2 ? 12 : 199);
            int needs = pick(1, 99);
            int fare = pick(0, style == 3 ? 3 : 99);
            int kind = pick(0, 2);
            int fast = pick(0, 59);
            same(run, "ferry(..)", () -> made.ferry(from, to, first, interval, needs, fare),
                    () -> model.ferry(from, to, first, interval, needs, fare));
            same(run, "kind(..)", () -> made.kind(number, kind), () -> model.kind(number, kind));
            same(run, "clock(..)", () -> made.clock(number, fast), () -> model.clock(number, fast));
        }
        int tide = pick(0, 719);
        int dear = pick(0, 60);
        same(run, "set(0, " + tide + ")", () -> made.set(0, tide), () -> model.set(0, tide));
        same(run, "set(1, " + dear + ")", () -> made.set(1, dear), () -> model.set(1, dear));
        for (int asked = 0; asked < 60; asked++) {
            ways(run);
            int traveller = pick(0, 3);
            int island = pick(0, 7);
            int minute = pick(0, asked % 2 == 0 ? 1439 : 200);
            int purse = pick(0, 300);
            same(run, "place(..)", () -> made.place(traveller, island, minute, purse),
                    () -> model.place(traveller, island, minute, purse));
        }
    }

    private static void digest(int run) {
        if (run % RUNS_BY_DIGEST == 0) {
            same(run, "digest()", () -> made.digest(), () -> model.digest());
        }
    }

    public static void main(String[] args) {
        for (int run = 0; run < WAYS_RUNS; run++) {
            seed = run * 104729L + 5;
            made = new TideFares();
            model = new PlainModel();
            waysRun(run);
            // Runs on end have unlike styles, so four on end have a digest.
            digest(run / 4);
        }
        for (int run = 0; run < RUNS; run++) {
            seed = run * 7919L + 17;
            made = new TideFares();
            model = new PlainModel();
            // Each step makes at most 29 calls on the object, and the digest is one more; the document promises 512.
            for (int before = calls; calls - before < CALLS - 29;) {
                switch (pick(0, 5)) {
                    case 0:
                        texts(run);
                        break;
                    case 1:
                        ways(run);
                        break;
                    case 2:
                        looks(run);
                        break;
                    default:
                        changes(run);
                }
            }
            digest(run);
        }
        System.out.println("ModelTest: " + calls + " calls, " + wrong + " wrong");
        if (wrong != 0) {
            System.exit(1);
        }
    }
}
