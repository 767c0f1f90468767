import java.util.ArrayList;
import java.util.List;
import java.util.regex.Matcher;
import java.util.regex.Pattern;

/**
 * The document, written as plainly as it can be: every ferry is asked at every minute whether it leaves.
 * It takes no part of the class, so that a mistake there is not made here too.
 */
final class PlainModel {
    private static final String NUMBERS = "@(0|1[0-9]{0,2}|[2-9][0-9]?)/(1[0-9]{0,2}|[2-9][0-9]?)"
            + "\\+([1-9][0-9]?)\\$(0|[1-9][0-9]?)([_^]?)";
    private static final Pattern TEXT = Pattern.compile(
            "([a-h])(?!\\1)([a-h])" + NUMBERS + "(;([a-h])(?!\\9)([a-h])" + NUMBERS + ")*");
    private static final Pattern PART = Pattern.compile("(.)(.)" + NUMBERS);

    /** All that undo brings back. */
    private static final class State {
        List<int[]> ferries = new ArrayList<>();
        int[][] travellers = {{0, 0, 50, 0, 0}, {0, 0, 50, 0, 0}, {0, 0, 50, 0, 0}, {0, 0, 50, 0, 0}};
        int[] settings = {0, 30};

        State copy() {
            State copy = new State();
            for (int[] ferry : ferries) {
                copy.ferries.add(ferry.clone());
            }
            for (int i = 0; i < 4; i++) {
                copy.travellers[i] = travellers[i].clone();
            }
            copy.settings = settings.clone();
            return copy;
        }
    }

    private State now = new State();
    private final List<State> saved = new ArrayList<>();
    private String buffer = "";

    private static boolean in(int value, int least, int most) {
        return least <= value && value <= most;
    }

    private static void index(boolean fits) {
        if (!fits) {
            throw new IndexOutOfBoundsException();
        }
    }

    private static void argument(boolean fits) {
        if (!fits) {
            throw new IllegalArgumentException();
        }
    }

    private static void state(boolean fits) {
        if (!fits) {
            throw new IllegalStateException();
        }
    }

    private boolean isFerry(int ferry) {
        return in(ferry, 0, now.ferries.size() - 1);
    }

    private void save() {
        saved.add(now.copy());
        if (saved.size() > 6) {
            saved.remove(0);
        }
    }

    int ferry(int from, int to, int first, int interval, int needs, int fare) {
        index(in(from, 0, 7) && in(to, 0, 7));
        argument(from != to && in(first, 0, 199) && in(interval, 1, 199) && in(needs, 1, 99) && in(fare, 0, 99));
        state(now.ferries.size() < 14);
        save();
        now.ferries.add(new int[] {from, to, first, interval, needs, fare, 0, 0, 0});
        return now.ferries.size() - 1;
    }

    int drop(int ferry) {
        index(isFerry(ferry));
        save();
        now.ferries.remove(ferry);
        return now.ferries.size();
    }

    int kind(int ferry, int kind) {
        index(isFerry(ferry));
        argument(in(kind, 0, 2));
        return change(ferry, 6, kind);
    }

    int clock(int ferry, int fast) {
        index(isFerry(ferry));
        argument(in(fast, 0, 59));
        return change(ferry, 7, fast);
    }

    private int change(int ferry, int what, int value) {
        save();
        int previous = now.ferries.get(ferry)[what];
        now.ferries.get(ferry)[what] = value;
        return previous;
    }

    int set(int setting, int value) {
        index(in(setting, 0, 1));
        argument(in(value, 0, setting == 0 ? 719 : 60));
        save();
        int previous = now.settings[setting];
        now.settings[setting] = value;
        return previous;
    }

    int place(int traveller, int island, int minute, int purse) {
        index(in(traveller, 0, 3) && in(island, 0, 7));
        argument(in(minute, 0, 1439) && in(purse, 0, 999));
        save();
        int[] one = now.travellers[traveller];
        int previous = one[2];
        one[0] = island;
        one[1] = minute;
        one[2] = purse;
        return previous;
    }

    int rest(int traveller, int minutes) {
        index(in(traveller, 0, 3));
        argument(in(minutes, 1, 720));
        state(now.travellers[traveller][1] + minutes <= 1439);
        save();
        now.travellers[traveller][1] += minutes;
        return now.travellers[traveller][1];
    }

    int take(int traveller, int ferry) {
        state(refusal(traveller, ferry) == 0);
        save();
        int[] one = now.travellers[traveller];
        int[] taken = now.ferries.get(ferry);
        int leaving = leaving(taken, one[1]);
        int coins = cost(taken, leaving);
        one[0] = taken[1];
        one[1] = leaving + taken[4];
        one[2] -= coins;
        one[3]++;
        one[4] += coins;
        taken[8]++;
        return one[1];
    }

    int append(int code) {
        argument(in(code, 33, 126));
        state(buffer.length() < 60);
        buffer += (char) code;
        return buffer.length();
    }

    int clearBuffer() {
        int length = buffer.length();
        buffer = "";
        return length;
    }

    int firstError() {
        for (int length = 1; length <= buffer.length(); length++) {
            Matcher begun = TEXT.matcher(buffer.substring(0, length));
            if (!begun.matches() && !begun.hitEnd()) {
                return length - 1;
            }
        }
        return buffer.length();
    }

    int ferries() {
        argument(TEXT.matcher(buffer).matches());
        String[] parts = buffer.split(";");
        state(now.ferries.size() + parts.length <= 14);
        save();
        for (String part : parts) {
            Matcher read = PART.matcher(part);
            read.matches();
            now.ferries.add(new int[] {read.group(1).charAt(0) - 'a', read.group(2).charAt(0) - 'a',
                Integer.parseInt(read.group(3)), Integer.parseInt(read.group(4)), Integer.parseInt(read.group(5)),
                Integer.parseInt(read.group(6)), " ^_".indexOf(read.group(7)) < 1 ? 0 : " ^_".indexOf(read.group(7)),
                0, 0});
        }
        buffer = "";
        return now.ferries.size();
    }

    int undo() {
        state(!saved.isEmpty());
        now = saved.remove(saved.size() - 1);
        return saved.size();
    }

    int ferryOf(int ferry, int what) {
        index(isFerry(ferry));
        argument(in(what, 0, 8));
        return now.ferries.get(ferry)[what];
    }

    int traveller(int traveller, int what) {
        index(in(traveller, 0, 3));
        argument(in(what, 0, 4));
        return now.travellers[traveller][what];
    }

    int leaves(int ferry, int minute) {
        index(isFerry(ferry));
        argument(in(minute, 0, 1539));
        return leaving(now.ferries.get(ferry), minute);
    }

    int costs(int ferry, int minute) {
        index(isFerry(ferry));
        argument(in(minute, 0, 1439));
        return cost(now.ferries.get(ferry), minute);
    }

    int count(int what) {
        argument(in(what, 0, 4));
        if (what == 0 || what == 4) {
            return what == 0 ? now.ferries.size() : saved.size();
        }
        int sum = 0;
        for (int[] traveller : now.travellers) {
            sum += traveller[what == 1 ? 3 : what == 2 ? 4 : 2];
        }
        return sum;
    }

    int setting(int setting) {
        index(in(setting, 0, 1));
        return now.settings[setting];
    }

    int refusal(int traveller, int ferry) {
        index(in(traveller, 0, 3) && isFerry(ferry));
        int[] one = now.travellers[traveller];
        int[] taken = now.ferries.get(ferry);
        if (taken[0] != one[0]) {
            return 1;
        }
        int leaving = leaving(taken, one[1]);
        return leaving < 0 ? 2 : cost(taken, leaving) > one[2] ? 3 : 0;
    }

    int soonest(int from, int to, int minute) {
        index(in(from, 0, 7) && in(to, 0, 7));
        argument(in(minute, 0, 1439));
        long[][] fewest = fewest(from, minute, 1539);
        for (int at = minute; at <= 1539; at++) {
            if (fewest[at][to] < FAR) {
                return at;
            }
        }
        return -1;
    }

    int cheapest(int from, int to, int minute, int limit) {
        index(in(from, 0, 7) && in(to, 0, 7));
        argument(in(minute, 0, 1439) && in(limit, minute, 1539));
        long coins = fewest(from, minute, limit)[limit][to];
        return coins < FAR ? (int) coins : -1;
    }

    int reach(int traveller) {
        index(in(traveller, 0, 3));
        int[] one = now.travellers[traveller];
        long[] coins = fewest(one[0], one[1], 1539)[1539];
        int mask = 0;
        for (int island = 0; island < 8; island++) {
            mask += coins[island] <= one[2] ? 1 << island : 0;
        }
        return mask;
    }

    int lastStart(int from, int to, int limit) {
        index(in(from, 0, 7) && in(to, 0, 7));
        argument(from != to && in(limit, 0, 1539));
        for (int minute = Math.min(limit, 1439); minute >= 0; minute--) {
            if (fewest(from, minute, limit)[limit][to] < FAR) {
                return minute;
            }
        }
        return -1;
    }

    double joined() {
        int pairs = 0;
        for (int from = 0; from < 8; from++) {
            long[] coins = fewest(from, 0, 1539)[1539];
            for (int to = 0; to < 8; to++) {
                pairs += to != from && coins[to] < FAR ? 1 : 0;
            }
        }
        return pairs / 56.0;
    }

    long digest() {
        List<Long> values = new ArrayList<>();
        for (int what = 0; what <= 4; what++) {
            values.add((long) count(what));
        }
        values.add((long) setting(0));
        values.add((long) setting(1));
        for (int ferry = 0; ferry < now.ferries.size(); ferry++) {
            for (int what = 0; what <= 8; what++) {
                values.add((long) ferryOf(ferry, what));
            }
            values.add((long) leaves(ferry, 60));
            values.add((long) costs(ferry, 60));
        }
        for (int traveller = 0; traveller < 4; traveller++) {
            for (int what = 0; what <= 4; what++) {
                values.add((long) traveller(traveller, what));
            }
            values.add((long) reach(traveller));
        }
        for (int island = 1; island <= 7; island++) {
            values.add((long) soonest(0, island, 30));
            values.add((long) cheapest(0, island, 30, 400));
            values.add((long) lastStart(0, island, 600));
        }
        values.add(Double.doubleToLongBits(joined()));
        values.add((long) buffer.length());
        for (char code : buffer.toCharArray()) {
            values.add((long) code);
        }
        long hash = 3301;
        for (long value : values) {
            hash = 31 * hash + value;
        }
        return hash;
    }

    private static final long FAR = 1L << 40;

    /** By minute and island: the fewest coins with which one is there at this minute; FAR if one cannot be. */
    private long[][] fewest(int from, int minute, int limit) {
        long[][] coins = new long[limit + 100][8];
        for (long[] row : coins) {
            java.util.Arrays.fill(row, FAR);
        }
        coins[minute][from] = 0;
        for (int at = minute; at <= limit; at++) {
            for (int island = 0; island < 8 && at > minute; island++) {
                coins[at][island] = Math.min(coins[at][island], coins[at - 1][island]);
            }
            for (int[] ferry : now.ferries) {
                if (goes(ferry, at)) {
                    long there = coins[at][ferry[0]] + cost(ferry, at);
                    coins[at + ferry[4]][ferry[1]] = Math.min(coins[at + ferry[4]][ferry[1]], there);
                }
            }
        }
        return coins;
    }

    private boolean goes(int[] ferry, int minute) {
        boolean high = (minute + now.settings[0]) % 720 < 360;
        return minute <= 1439 && minute >= ferry[2] && (minute - ferry[2]) % ferry[3] == 0
                && (ferry[6] == 0 || ferry[6] == 1 && high || ferry[6] == 2 && !high);
    }

    private int leaving(int[] ferry, int from) {
        for (int minute = from; minute <= 1439; minute++) {
            if (goes(ferry, minute)) {
                return minute;
            }
        }
        return -1;
    }

    private int cost(int[] ferry, int minute) {
        return (minute + ferry[7]) % 60 < now.settings[1] ? ferry[5] * 2 : ferry[5];
    }
}
