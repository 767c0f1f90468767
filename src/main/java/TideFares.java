import java.util.Arrays;

/** Islands joined by ferries whose fares hang on their clocks. */
public final class TideFares {
    public static final int NONE = -1;

    private static final int ISLANDS = 8;
    private static final int TRAVELLERS = 4;
    private static final int SETTINGS = 2;
    private static final int MOST_FERRIES = 14;
    private static final int MOST_SAVED = 6;
    private static final int LAST_LEAVING = 1439;
    private static final int LAST_MINUTE = 1539;
    private static final int LONGEST_REST = 720;
    private static final int MOST_COINS = 999;
    private static final int PAIRS = ISLANDS * (ISLANDS - 1);

    private static final int TIDE = 0;
    private static final int DEAR_MINUTES = 1;
    private static final int[] MOST_OF_SETTING = {719, 60};

    // The numbers of a ferry, by the document's own order of them.
    private static final int FROM = 0;
    private static final int TO = 1;
    private static final int FIRST = 2;
    private static final int INTERVAL = 3;
    private static final int NEEDS = 4;
    private static final int FARE = 5;
    private static final int KIND = 6;
    private static final int CLOCK = 7;
    private static final int TAKEN = 8;
    private static final int FERRY_NUMBERS = 9;
    private static final int[] LEAST = {0, 0, 0, 1, 1, 0, 0, 0};
    private static final int[] MOST = {7, 7, 199, 199, 99, 99, 2, 59};
    private static final int ALWAYS = 0;
    private static final int AT_HIGH_TIDE = 1;
    private static final int AT_LOW_TIDE = 2;

    // The numbers of a traveller, by the document's own order of them.
    private static final int ISLAND = 0;
    private static final int MINUTE = 1;
    private static final int PURSE = 2;
    private static final int TRIPS = 3;
    private static final int PAID = 4;
    private static final int TRAVELLER_NUMBERS = 5;

    // One row of numbers is the whole state, so that saving and restoring it is one copy.
    private static final int FERRY_COUNT = 0;
    private static final int SETTINGS_AT = 1;
    private static final int TRAVELLERS_AT = SETTINGS_AT + SETTINGS;
    private static final int FERRIES_AT = TRAVELLERS_AT + TRAVELLERS * TRAVELLER_NUMBERS;
    private static final int STATE_NUMBERS = FERRIES_AT + MOST_FERRIES * FERRY_NUMBERS;

    private static final int TAKABLE = 0;
    private static final int ON_ANOTHER_ISLAND = 1;
    private static final int LEAVES_NO_MORE = 2;
    private static final int PURSE_TOO_SMALL = 3;

    private final Sea sea;
    private final Ways ways;
    private final FerryText text;
    private final int[] saved;
    private int savedCount;
    private int oldestSaved;

    public TideFares() {
        sea = new Sea();
        ways = new Ways();
        text = new FerryText();
        saved = new int[MOST_SAVED * STATE_NUMBERS];
        savedCount = 0;
        oldestSaved = 0;
    }

    // ---- ferries

    public int ferry(int from, int to, int first, int interval, int needs, int fare)
            throws IndexOutOfBoundsException, IllegalArgumentException, IllegalStateException {
        checkIsland(from);
        checkIsland(to);
        checkArgument(from != to);
        checkFerryNumber(FIRST, first);
        checkFerryNumber(INTERVAL, interval);
        checkFerryNumber(NEEDS, needs);
        checkFerryNumber(FARE, fare);
        checkState(sea.ferryCount() < MOST_FERRIES);
        save();
        sea.tell(from, to, first, interval, needs, fare, ALWAYS);
        return sea.ferryCount() - 1;
    }

    public int drop(int ferry) throws IndexOutOfBoundsException {
        checkFerry(ferry);
        save();
        sea.forget(ferry);
        return sea.ferryCount();
    }

    public int kind(int ferry, int kind) throws IndexOutOfBoundsException, IllegalArgumentException {
        checkFerry(ferry);
        checkFerryNumber(KIND, kind);
        return changeFerry(ferry, KIND, kind);
    }

    public int clock(int ferry, int fast) throws IndexOutOfBoundsException, IllegalArgumentException {
        checkFerry(ferry);
        checkFerryNumber(CLOCK, fast);
        return changeFerry(ferry, CLOCK, fast);
    }

    public int set(int setting, int value) throws IndexOutOfBoundsException, IllegalArgumentException {
        checkIndex(setting, SETTINGS);
        checkArgument(isWithin(value, 0, MOST_OF_SETTING[setting]));
        save();
        int previous = sea.settingValue(setting);
        sea.changeSetting(setting, value);
        return previous;
    }

    // ---- travellers

    public int place(int traveller, int island, int minute, int purse)
            throws IndexOutOfBoundsException, IllegalArgumentException {
        checkTraveller(traveller);
        checkIsland(island);
        checkArgument(isWithin(minute, 0, LAST_LEAVING));
        checkArgument(isWithin(purse, 0, MOST_COINS));
        save();
        int previous = sea.travellerNumber(traveller, PURSE);
        sea.changeTraveller(traveller, ISLAND, island);
        sea.changeTraveller(traveller, MINUTE, minute);
        sea.changeTraveller(traveller, PURSE, purse);
        return previous;
    }

    public int rest(int traveller, int minutes)
            throws IndexOutOfBoundsException, IllegalArgumentException, IllegalStateException {
        checkTraveller(traveller);
        checkArgument(isWithin(minutes, 1, LONGEST_REST));
        int minute = sea.travellerNumber(traveller, MINUTE) + minutes;
        checkState(minute <= LAST_LEAVING);
        save();
        sea.changeTraveller(traveller, MINUTE, minute);
        return minute;
    }

    public int take(int traveller, int ferry) throws IndexOutOfBoundsException, IllegalStateException {
        checkTraveller(traveller);
        checkFerry(ferry);
        checkState(whyNot(traveller, ferry) == TAKABLE);
        save();
        sea.carry(traveller, ferry);
        return sea.travellerNumber(traveller, MINUTE);
    }

    // ---- texts

    public int append(int code) throws IllegalArgumentException, IllegalStateException {
        checkArgument(isWithin(code, FerryText.LEAST_CODE, FerryText.MOST_CODE));
        checkState(text.size() < FerryText.MOST_CODES);
        text.add(code);
        return text.size();
    }

    public int clearBuffer() {
        int length = text.size();
        text.clear();
        return length;
    }

    public int firstError() {
        return text.read();
    }

    public int ferries() throws IllegalArgumentException, IllegalStateException {
        checkArgument(text.isComplete());
        int told = text.partCount();
        checkState(sea.ferryCount() + told <= MOST_FERRIES);
        save();
        for (int part = 0; part < told; part++) {
            sea.tell(text.number(part, FROM), text.number(part, TO), text.number(part, FIRST),
                    text.number(part, INTERVAL), text.number(part, NEEDS), text.number(part, FARE),
                    text.number(part, KIND));
        }
        text.clear();
        return sea.ferryCount();
    }

    public int undo() throws IllegalStateException {
        checkState(savedCount > 0);
        savedCount--;
        sea.restore(saved, (oldestSaved + savedCount) % MOST_SAVED * STATE_NUMBERS);
        return savedCount;
    }

    // ---- looks; nothing is changed

    public int ferryOf(int ferry, int what) throws IndexOutOfBoundsException, IllegalArgumentException {
        checkFerry(ferry);
        checkArgument(isWithin(what, 0, FERRY_NUMBERS - 1));
        return sea.ferryNumber(ferry, what);
    }

    public int traveller(int traveller, int what) throws IndexOutOfBoundsException, IllegalArgumentException {
        checkTraveller(traveller);
        checkArgument(isWithin(what, 0, TRAVELLER_NUMBERS - 1));
        return sea.travellerNumber(traveller, what);
    }

    public int leaves(int ferry, int minute) throws IndexOutOfBoundsException, IllegalArgumentException {
        checkFerry(ferry);
        checkArgument(isWithin(minute, 0, LAST_MINUTE));
        return sea.nextLeaving(ferry, minute);
    }

    public int costs(int ferry, int minute) throws IndexOutOfBoundsException, IllegalArgumentException {
        checkFerry(ferry);
        checkArgument(isWithin(minute, 0, LAST_LEAVING));
        return sea.price(ferry, minute);
    }

    public int count(int what) throws IllegalArgumentException {
        checkArgument(isWithin(what, 0, 4));
        return total(what);
    }

    public int setting(int setting) throws IndexOutOfBoundsException {
        checkIndex(setting, SETTINGS);
        return sea.settingValue(setting);
    }

    // ---- what would be; nothing is changed

    public int refusal(int traveller, int ferry) throws IndexOutOfBoundsException {
        checkTraveller(traveller);
        checkFerry(ferry);
        return whyNot(traveller, ferry);
    }

    public int soonest(int from, int to, int minute) throws IndexOutOfBoundsException, IllegalArgumentException {
        checkIsland(from);
        checkIsland(to);
        checkArgument(isWithin(minute, 0, LAST_LEAVING));
        ways.findArrivals(sea, from, minute);
        return ways.arrivalAt(to);
    }

    public int cheapest(int from, int to, int minute, int limit)
            throws IndexOutOfBoundsException, IllegalArgumentException {
        checkIsland(from);
        checkIsland(to);
        checkArgument(isWithin(minute, 0, LAST_LEAVING));
        checkArgument(isWithin(limit, minute, LAST_MINUTE));
        ways.findFares(sea, from, minute, limit);
        return ways.fareTo(to);
    }

    public int reach(int traveller) throws IndexOutOfBoundsException {
        checkTraveller(traveller);
        return islandsFor(traveller);
    }

    public int lastStart(int from, int to, int limit) throws IndexOutOfBoundsException, IllegalArgumentException {
        checkIsland(from);
        checkIsland(to);
        checkArgument(from != to);
        checkArgument(isWithin(limit, 0, LAST_MINUTE));
        ways.findStarts(sea, to, limit);
        return ways.startFrom(from);
    }

    public double joined() {
        return (double) joinedPairs() / (double) PAIRS;
    }

    public long digest() {
        long hash = 3301L;
        for (int what = 0; what <= 4; what++) {
            hash = mix(hash, total(what));
        }
        for (int setting = 0; setting < SETTINGS; setting++) {
            hash = mix(hash, sea.settingValue(setting));
        }
        for (int ferry = 0; ferry < sea.ferryCount(); ferry++) {
            hash = mixFerry(hash, ferry);
        }
        for (int traveller = 0; traveller < TRAVELLERS; traveller++) {
            hash = mixTraveller(hash, traveller);
            hash = mix(hash, islandsFor(traveller));
        }
        hash = mixWays(hash);
        hash = mix(hash, bitsOfShare((double) joinedPairs() / (double) PAIRS));
        return mixText(hash);
    }

    // ---- checks

    private static boolean isWithin(int value, int least, int most) {
        return value >= least && value <= most;
    }

    private static void checkIndex(int index, int length) {
        if (!isWithin(index, 0, length - 1)) {
            throw new IndexOutOfBoundsException("there is no such one");
        }
    }

    private static void checkArgument(boolean fits) {
        if (!fits) {
            throw new IllegalArgumentException("an argument is out of range");
        }
    }

    private static void checkState(boolean fits) {
        if (!fits) {
            throw new IllegalStateException("that cannot be done now");
        }
    }

    private static void checkIsland(int island) {
        checkIndex(island, ISLANDS);
    }

    private static void checkTraveller(int traveller) {
        checkIndex(traveller, TRAVELLERS);
    }

    private void checkFerry(int ferry) {
        checkIndex(ferry, sea.ferryCount());
    }

    private static void checkFerryNumber(int what, int value) {
        checkArgument(isWithin(value, LEAST[what], MOST[what]));
    }

    // ---- parts of the calls

    private void save() {
        if (savedCount == MOST_SAVED) {
            oldestSaved = (oldestSaved + 1) % MOST_SAVED;
            savedCount--;
        }
        sea.copyTo(saved, (oldestSaved + savedCount) % MOST_SAVED * STATE_NUMBERS);
        savedCount++;
    }

    private int changeFerry(int ferry, int what, int value) {
        save();
        int previous = sea.ferryNumber(ferry, what);
        sea.changeFerry(ferry, what, value);
        return previous;
    }

    private int whyNot(int traveller, int ferry) {
        if (sea.ferryNumber(ferry, FROM) != sea.travellerNumber(traveller, ISLAND)) {
            return ON_ANOTHER_ISLAND;
        }
        int leaving = sea.nextLeaving(ferry, sea.travellerNumber(traveller, MINUTE));
        if (leaving == NONE) {
            return LEAVES_NO_MORE;
        }
        return sea.price(ferry, leaving) > sea.travellerNumber(traveller, PURSE) ? PURSE_TOO_SMALL : TAKABLE;
    }

    private int total(int what) {
        if (what == 0) {
            return sea.ferryCount();
        }
        if (what == 1) {
            return sea.sumOfTravellers(TRIPS);
        }
        if (what == 2) {
            return sea.sumOfTravellers(PAID);
        }
        return what == 3 ? sea.sumOfTravellers(PURSE) : savedCount;
    }

    private int islandsFor(int traveller) {
        ways.findFares(sea, sea.travellerNumber(traveller, ISLAND), sea.travellerNumber(traveller, MINUTE),
                LAST_MINUTE);
        return ways.islandsWithin(sea.travellerNumber(traveller, PURSE));
    }

    private int joinedPairs() {
        int pairs = 0;
        for (int from = 0; from < ISLANDS; from++) {
            ways.findArrivals(sea, from, 0);
            for (int to = 0; to < ISLANDS; to++) {
                if (to != from && ways.arrivalAt(to) != NONE) {
                    pairs++;
                }
            }
        }
        return pairs;
    }

    // ---- parts of the digest

    private static long mix(long hash, long value) {
        return 31L * hash + value;
    }

    private long mixFerry(long before, int ferry) {
        long hash = before;
        for (int what = 0; what < FERRY_NUMBERS; what++) {
            hash = mix(hash, sea.ferryNumber(ferry, what));
        }
        hash = mix(hash, sea.nextLeaving(ferry, 60));
        return mix(hash, sea.price(ferry, 60));
    }

    private long mixTraveller(long before, int traveller) {
        long hash = before;
        for (int what = 0; what < TRAVELLER_NUMBERS; what++) {
            hash = mix(hash, sea.travellerNumber(traveller, what));
        }
        return hash;
    }

    private long mixWays(long before) {
        long hash = before;
        ways.findArrivals(sea, 0, 30);
        ways.findFares(sea, 0, 30, 400);
        for (int island = 1; island < ISLANDS; island++) {
            ways.findStarts(sea, island, 600);
            hash = mix(hash, ways.arrivalAt(island));
            hash = mix(hash, ways.fareTo(island));
            hash = mix(hash, ways.startFrom(0));
        }
        return hash;
    }

    private long mixText(long before) {
        long hash = mix(before, text.size());
        for (int index = 0; index < text.size(); index++) {
            hash = mix(hash, text.codeAt(index));
        }
        return hash;
    }

    // LANGUAGE.md leaves no library call for the bits; doublings and the difference from 1 are exact.
    private static long bitsOfShare(double share) {
        if (share <= 0.0) {
            return 0L;
        }
        double scaled = share;
        long exponent = 1023L;
        while (scaled < 1.0 && exponent > 0L) {
            scaled = scaled * 2.0;
            exponent--;
        }
        return exponent * (1L << 52) + (long) ((scaled - 1.0) * (double) (1L << 52));
    }

    /** All that undo brings back: ferries, travellers, settings. */
    private static final class Sea {
        private static final int HALF_TIDE = 360;
        private static final int HOUR = 60;

        private final int[] numbers;

        Sea() {
            numbers = new int[STATE_NUMBERS];
            numbers[SETTINGS_AT + DEAR_MINUTES] = 30;
            for (int traveller = 0; traveller < TRAVELLERS; traveller++) {
                numbers[TRAVELLERS_AT + traveller * TRAVELLER_NUMBERS + PURSE] = 50;
            }
        }

        void copyTo(int[] rows, int at) {
            System.arraycopy(numbers, 0, rows, at, STATE_NUMBERS);
        }

        void restore(int[] rows, int at) {
            System.arraycopy(rows, at, numbers, 0, STATE_NUMBERS);
        }

        int ferryCount() {
            return numbers[FERRY_COUNT];
        }

        int settingValue(int setting) {
            return numbers[SETTINGS_AT + setting];
        }

        void changeSetting(int setting, int value) {
            numbers[SETTINGS_AT + setting] = value;
        }

        int ferryNumber(int ferry, int what) {
            return numbers[FERRIES_AT + ferry * FERRY_NUMBERS + what];
        }

        void changeFerry(int ferry, int what, int value) {
            numbers[FERRIES_AT + ferry * FERRY_NUMBERS + what] = value;
        }

        int travellerNumber(int traveller, int what) {
            return numbers[TRAVELLERS_AT + traveller * TRAVELLER_NUMBERS + what];
        }

        void changeTraveller(int traveller, int what, int value) {
            numbers[TRAVELLERS_AT + traveller * TRAVELLER_NUMBERS + what] = value;
        }

        int sumOfTravellers(int what) {
            int sum = 0;
            for (int traveller = 0; traveller < TRAVELLERS; traveller++) {
                sum += travellerNumber(traveller, what);
            }
            return sum;
        }

        void tell(int from, int to, int first, int interval, int needs, int fare, int kind) {
            int ferry = numbers[FERRY_COUNT];
            if (ferry >= MOST_FERRIES) {
                return;
            }
            changeFerry(ferry, FROM, from);
            changeFerry(ferry, TO, to);
            changeFerry(ferry, FIRST, first);
            changeFerry(ferry, INTERVAL, interval);
            changeFerry(ferry, NEEDS, needs);
            changeFerry(ferry, FARE, fare);
            changeFerry(ferry, KIND, kind);
            changeFerry(ferry, CLOCK, 0);
            changeFerry(ferry, TAKEN, 0);
            numbers[FERRY_COUNT] = ferry + 1;
        }

        void forget(int ferry) {
            int left = numbers[FERRY_COUNT] - 1;
            int at = FERRIES_AT + ferry * FERRY_NUMBERS;
            if (ferry < left) {
                System.arraycopy(numbers, at + FERRY_NUMBERS, numbers, at, (left - ferry) * FERRY_NUMBERS);
            }
            numbers[FERRY_COUNT] = left;
        }

        void carry(int traveller, int ferry) {
            int leaving = nextLeaving(ferry, travellerNumber(traveller, MINUTE));
            int coins = price(ferry, leaving);
            changeTraveller(traveller, ISLAND, ferryNumber(ferry, TO));
            changeTraveller(traveller, MINUTE, leaving + ferryNumber(ferry, NEEDS));
            changeTraveller(traveller, PURSE, travellerNumber(traveller, PURSE) - coins);
            changeTraveller(traveller, TRIPS, travellerNumber(traveller, TRIPS) + 1);
            changeTraveller(traveller, PAID, travellerNumber(traveller, PAID) + coins);
            changeFerry(ferry, TAKEN, ferryNumber(ferry, TAKEN) + 1);
        }

        int price(int ferry, int minute) {
            int fare = numbers[FERRIES_AT + ferry * FERRY_NUMBERS + FARE];
            return minuteOfHour(ferry, minute) < numbers[SETTINGS_AT + DEAR_MINUTES] ? 2 * fare : fare;
        }

        private int minuteOfHour(int ferry, int minute) {
            return (minute + numbers[FERRIES_AT + ferry * FERRY_NUMBERS + CLOCK]) % HOUR;
        }

        int nextLeaving(int ferry, int minute) {
            int leaving = nextOnTimetable(ferry, minute);
            if (isCancelled(ferry, leaving)) {
                // An interval is shorter than half a tide, so the first one behind the turn goes.
                leaving = nextOnTimetable(ferry, leaving - sinceTurn(leaving) + HALF_TIDE);
            }
            return leaving > LAST_LEAVING ? NONE : leaving;
        }

        int nextCheapLeaving(int ferry, int minute) {
            int dear = numbers[SETTINGS_AT + DEAR_MINUTES];
            int leaving = nextLeaving(ferry, minute);
            for (int tries = 0; tries <= LAST_LEAVING && leaving != NONE; tries++) {
                int ofHour = minuteOfHour(ferry, leaving);
                if (ofHour >= dear) {
                    return leaving;
                }
                leaving = nextLeaving(ferry, leaving - ofHour + dear);
            }
            return NONE;
        }

        int lastLeaving(int ferry, int minute) {
            int leaving = lastOnTimetable(ferry, Math.min(minute, LAST_LEAVING));
            if (leaving != NONE && isCancelled(ferry, leaving)) {
                leaving = lastOnTimetable(ferry, leaving - sinceTurn(leaving) - 1);
            }
            return leaving;
        }

        private int nextOnTimetable(int ferry, int minute) {
            int first = numbers[FERRIES_AT + ferry * FERRY_NUMBERS + FIRST];
            int interval = numbers[FERRIES_AT + ferry * FERRY_NUMBERS + INTERVAL];
            if (minute <= first || interval < 1) {
                return first;
            }
            int late = (minute - first) % interval;
            return late == 0 ? minute : minute - late + interval;
        }

        private int lastOnTimetable(int ferry, int minute) {
            int first = numbers[FERRIES_AT + ferry * FERRY_NUMBERS + FIRST];
            int interval = numbers[FERRIES_AT + ferry * FERRY_NUMBERS + INTERVAL];
            if (minute < first || interval < 1) {
                return NONE;
            }
            return minute - (minute - first) % interval;
        }

        private boolean isCancelled(int ferry, int minute) {
            int kind = numbers[FERRIES_AT + ferry * FERRY_NUMBERS + KIND];
            boolean high = (minute + numbers[SETTINGS_AT + TIDE]) % (2 * HALF_TIDE) < HALF_TIDE;
            return kind == AT_HIGH_TIDE && !high || kind == AT_LOW_TIDE && high;
        }

        private int sinceTurn(int minute) {
            return (minute + numbers[SETTINGS_AT + TIDE]) % HALF_TIDE;
        }
    }

    /** Searches over all islands at once; its rows are made once and used by every search. */
    private static final class Ways {
        // A ferry needs less than this many minutes, so those who are at sea come in different slots.
        private static final int SLOTS = 100;
        private static final int NEVER = LAST_MINUTE + 1;

        private final int[] arrivals;
        private final int[] starts;
        private final int[] fares;
        private final int[] boardings;
        private final int[] comers;
        private final int[] comersFares;
        private int nextBoarding;

        Ways() {
            arrivals = new int[ISLANDS];
            starts = new int[ISLANDS];
            fares = new int[ISLANDS];
            boardings = new int[MOST_FERRIES];
            comers = new int[SLOTS];
            comersFares = new int[SLOTS * ISLANDS];
            nextBoarding = NEVER;
        }

        int arrivalAt(int island) {
            return arrivals[island];
        }

        int startFrom(int island) {
            return starts[island];
        }

        int fareTo(int island) {
            return fares[island];
        }

        int islandsWithin(int purse) {
            int mask = 0;
            for (int island = 0; island < ISLANDS; island++) {
                if (fares[island] != NONE && fares[island] <= purse) {
                    mask |= 1 << island;
                }
            }
            return mask;
        }

        void findArrivals(Sea sea, int from, int minute) {
            Arrays.fill(arrivals, NONE);
            arrivals[from] = minute;
            boolean better = true;
            // A soonest way is on no island twice: it takes fewer ferries than there are islands.
            for (int round = 1; round < ISLANDS && better; round++) {
                better = false;
                for (int ferry = 0; ferry < sea.ferryCount(); ferry++) {
                    if (comesSooner(sea, ferry)) {
                        better = true;
                    }
                }
            }
        }

        private boolean comesSooner(Sea sea, int ferry) {
            int from = sea.ferryNumber(ferry, FROM);
            int to = sea.ferryNumber(ferry, TO);
            int leaving = arrivals[from] == NONE ? NONE : sea.nextLeaving(ferry, arrivals[from]);
            if (leaving == NONE) {
                return false;
            }
            int coming = leaving + sea.ferryNumber(ferry, NEEDS);
            if (arrivals[to] != NONE && arrivals[to] <= coming) {
                return false;
            }
            arrivals[to] = coming;
            return true;
        }

        void findStarts(Sea sea, int to, int limit) {
            Arrays.fill(starts, NONE);
            starts[to] = limit;
            boolean better = true;
            for (int round = 1; round < ISLANDS && better; round++) {
                better = false;
                for (int ferry = 0; ferry < sea.ferryCount(); ferry++) {
                    if (startsLater(sea, ferry)) {
                        better = true;
                    }
                }
            }
        }

        private boolean startsLater(Sea sea, int ferry) {
            int from = sea.ferryNumber(ferry, FROM);
            int to = sea.ferryNumber(ferry, TO);
            if (starts[to] == NONE) {
                return false;
            }
            int leaving = sea.lastLeaving(ferry, starts[to] - sea.ferryNumber(ferry, NEEDS));
            if (leaving <= starts[from]) {
                return false;
            }
            starts[from] = leaving;
            return true;
        }

        /**
         * Goes from minute to minute. From an island that is reached for fewer coins each ferry is worth
         * boarding when it leaves next and, if that is dear, when it leaves next for less: any other
         * leaving comes later for as many coins.
         */
        void findFares(Sea sea, int from, int minute, int limit) {
            Arrays.fill(fares, NONE);
            Arrays.fill(boardings, NEVER);
            nextBoarding = NEVER;
            comeTo(sea, from, minute, 0);
            for (int now = minute; now <= limit; now++) {
                if (comers[now % SLOTS] != 0) {
                    letCome(sea, now);
                }
                if (nextBoarding == now) {
                    letBoard(sea, now, limit);
                }
            }
        }

        private void letCome(Sea sea, int now) {
            int slot = now % SLOTS;
            for (int island = 0; island < ISLANDS; island++) {
                if ((comers[slot] & (1 << island)) != 0) {
                    comeTo(sea, island, now, comersFares[slot * ISLANDS + island]);
                }
            }
            comers[slot] = 0;
        }

        private void comeTo(Sea sea, int island, int minute, int coins) {
            if (fares[island] != NONE && fares[island] <= coins) {
                return;
            }
            fares[island] = coins;
            for (int ferry = 0; ferry < sea.ferryCount(); ferry++) {
                if (sea.ferryNumber(ferry, FROM) == island) {
                    boardings[ferry] = orNever(sea.nextLeaving(ferry, minute));
                    nextBoarding = Math.min(nextBoarding, boardings[ferry]);
                }
            }
        }

        private void letBoard(Sea sea, int now, int limit) {
            nextBoarding = NEVER;
            for (int ferry = 0; ferry < sea.ferryCount(); ferry++) {
                if (boardings[ferry] == now) {
                    int coins = sea.price(ferry, now);
                    boolean dear = coins > sea.ferryNumber(ferry, FARE);
                    boardings[ferry] = dear ? orNever(sea.nextCheapLeaving(ferry, now + 1)) : NEVER;
                    int coming = now + sea.ferryNumber(ferry, NEEDS);
                    if (coming <= limit) {
                        expect(sea.ferryNumber(ferry, TO), coming, fares[sea.ferryNumber(ferry, FROM)] + coins);
                    }
                }
                nextBoarding = Math.min(nextBoarding, boardings[ferry]);
            }
        }

        private void expect(int island, int minute, int coins) {
            int slot = minute % SLOTS;
            int at = slot * ISLANDS + island;
            if ((comers[slot] & (1 << island)) == 0 || coins < comersFares[at]) {
                comers[slot] |= 1 << island;
                comersFares[at] = coins;
            }
        }

        private static int orNever(int leaving) {
            return leaving == NONE ? NEVER : leaving;
        }
    }

    /** The buffer, read as ferries from left to right. */
    private static final class FerryText {
        static final int LEAST_CODE = 33;
        static final int MOST_CODE = 126;
        static final int MOST_CODES = 60;

        // The shortest part and its ";" have 11 characters, so no seventh one begins in the buffer.
        private static final int MOST_PARTS = 6;
        private static final int PART_NUMBERS = KIND + 1;
        // The sign behind each number of a part, by the order of the numbers; none is behind FROM.
        private static final char[] SIGN_BEHIND = {' ', '@', '/', '+', '$', ';', ';'};

        private final int[] codes;
        private final int[] numbers;
        private int length;
        private int part;
        private int stage;
        private int from;
        // What has been read of the number at this stage; NONE while nothing has.
        private int value;

        FerryText() {
            codes = new int[MOST_CODES];
            numbers = new int[MOST_PARTS * PART_NUMBERS];
            length = 0;
            part = 0;
            stage = FROM;
            from = NONE;
            value = NONE;
        }

        int size() {
            return length;
        }

        int codeAt(int index) {
            return codes[index];
        }

        void add(int code) {
            if (length < MOST_CODES) {
                codes[length] = code;
                length++;
            }
        }

        void clear() {
            length = 0;
        }

        int partCount() {
            return part + 1;
        }

        int number(int ofPart, int what) {
            return numbers[ofPart * PART_NUMBERS + what];
        }

        boolean isComplete() {
            return read() == length && (stage == FARE && value != NONE || stage == KIND);
        }

        int read() {
            part = 0;
            beginPart();
            for (int index = 0; index < length; index++) {
                if (!accepts(codes[index])) {
                    return index;
                }
            }
            return length;
        }

        private void beginPart() {
            keep(KIND, ALWAYS);
            stage = FROM;
            value = NONE;
        }

        private void keep(int what, int number) {
            if (part < MOST_PARTS) {
                numbers[part * PART_NUMBERS + what] = number;
            }
        }

        private boolean accepts(int code) {
            if (stage <= TO && value == NONE) {
                return acceptsIsland(code - 'a');
            }
            if (stage >= FIRST && stage <= FARE && isWithin(code, '0', '9')) {
                return acceptsDigit(code - '0');
            }
            return acceptsSign(code);
        }

        private boolean acceptsIsland(int island) {
            if (!isWithin(island, 0, ISLANDS - 1)) {
                return false;
            }
            if (stage == FROM) {
                keep(FROM, island);
                from = island;
                stage = TO;
                return true;
            }
            if (island == from) {
                return false;
            }
            keep(TO, island);
            value = island;
            return true;
        }

        private boolean acceptsDigit(int digit) {
            int longer = value == NONE ? digit : value * 10 + digit;
            if (value == 0 || !isWithin(longer, LEAST[stage], MOST[stage])) {
                return false;
            }
            value = longer;
            keep(stage, value);
            return true;
        }

        private boolean acceptsSign(int code) {
            if (value == NONE) {
                return false;
            }
            if (stage == FARE && (code == '^' || code == '_')) {
                keep(KIND, code == '^' ? AT_HIGH_TIDE : AT_LOW_TIDE);
                stage = KIND;
                return true;
            }
            if (code != SIGN_BEHIND[stage]) {
                return false;
            }
            if (code == ';') {
                part++;
                beginPart();
            } else {
                stage++;
                value = NONE;
            }
            return true;
        }
    }
}
