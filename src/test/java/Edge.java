import java.util.ArrayList;
import java.util.List;

/** What the tests of the edges share: objects to begin from, ranges, refused calls, looks, and undo. */
final class Edge {
    static final Class<IndexOutOfBoundsException> INDEX = IndexOutOfBoundsException.class;
    static final Class<IllegalArgumentException> ARGUMENT = IllegalArgumentException.class;
    static final Class<IllegalStateException> STATE = IllegalStateException.class;

    interface Scene {
        TideFares make();
    }

    interface Use {
        long on(TideFares x);
    }

    interface UseOf {
        long on(TideFares x, int value);
    }

    private Edge() {
    }

    /** Four ferries of all kinds, two of them taken, travellers apart, a text begun, and six states saved. */
    static TideFares busy() {
        TideFares x = Checks.with("ab@10/30+20$5;bc@0/1+1$0_;cd@199/199+99$99^");
        x.ferry(3, 0, 5, 7, 11, 13);
        x.clock(2, 59);
        x.set(0, 100);
        x.set(1, 45);
        x.place(1, 2, 300, 999);
        x.take(1, 2);
        x.take(0, 0);
        x.rest(3, 7);
        Checks.type(x, "gh@1/");
        return x;
    }

    /** 14 ferries, each with a first minute, an interval, minutes and a fare of its own, and six states saved. */
    static TideFares full() {
        TideFares x = new TideFares();
        for (int ferry = 0; ferry < 14; ferry++) {
            x.ferry(ferry % 8, (ferry + 1) % 8, 20 + ferry, 40 + ferry, 60 + ferry, 80 + ferry);
        }
        return x;
    }

    /** Three ferries, and as many states saved as told, each of them unlike the others. */
    static TideFares withSaved(int states) {
        TideFares x = Checks.with("ab@10/30+20$5;ac@0/1+1$0_;ad@199/199+99$9^");
        for (int value = 1; value <= 6; value++) {
            x.set(0, value);
        }
        for (int undone = 0; undone < 6; undone++) {
            x.undo();
        }
        Use[] changes = {y -> y.place(2, 0, 5, 400), y -> y.take(2, 0), y -> y.clock(1, 9), y -> y.kind(2, 2),
            y -> y.rest(3, 4), y -> y.set(1, 20)};
        for (int change = 0; change < states; change++) {
            changes[change].on(x);
        }
        return x;
    }

    static void due(String call, long want, long got) {
        Checks.due(call, want, got);
    }

    /** The call throws exactly this, and leaves all as it was: the state, the buffer, and the saved states. */
    static void refused(Scene scene, Class<? extends RuntimeException> due, String call, Use use) {
        TideFares x = scene.make();
        Class<?> thrown = null;
        try {
            use.on(x);
        } catch (RuntimeException e) {
            thrown = e.getClass();
        }
        Checks.holds(call + " threw " + thrown + ", due is " + due, thrown == due);
        Checks.holds(call + " changed something, though it was refused", digests(scene.make()).equals(digests(x)));
    }

    /** The call is one that changes nothing: neither the state, nor the buffer, nor the saved states. */
    static void looks(Scene scene, String call, Use use) {
        TideFares x = scene.make();
        long answer = use.on(x);
        due(call + " once more", answer, use.on(x));
        Checks.holds(call + " changed something", digests(scene.make()).equals(digests(x)));
    }

    /**
     * The numbers from least to most are taken: the use answers with its own number, got back from the object.
     * A step ahead and a step behind are refused, and so is what is far outside.
     */
    static void range(Scene scene, Class<? extends RuntimeException> due, String call, int least, int most, UseOf use) {
        int[] taken = {least, Math.min(least + 1, most), Math.max(most - 1, least), most};
        for (int value : taken) {
            due(call + " of " + value, value, use.on(scene.make(), value));
        }
        int[] refused = {least - 1, most + 1, Integer.MIN_VALUE, Integer.MAX_VALUE};
        for (int value : refused) {
            refused(scene, due, call + " of " + value, x -> use.on(x, value));
        }
    }

    /** The call saves the state from before it, with none, one, five and six saved; the oldest makes room. */
    static void undoable(String call, Use use) {
        int[] saved = {0, 1, 5, 6};
        for (int states : saved) {
            List<List<Integer>> before = states(withSaved(states));
            TideFares x = withSaved(states);
            use.on(x);
            int due = Math.min(states + 1, 6);
            due(call + " with " + states + " saved: count(4)", due, x.count(4));
            List<List<Integer>> undone = states(x);
            Checks.holds(call + " with " + states + " saved: the states that undo brings back",
                    undone.subList(1, undone.size()).equals(before.subList(0, due)));
        }
    }

    /** The digest of an object, and behind each undo; the object is used up by it. */
    private static List<Long> digests(TideFares x) {
        List<Long> digests = new ArrayList<>();
        digests.add(x.digest());
        for (int left = x.count(4); left > 0; left--) {
            x.undo();
            digests.add(x.digest());
        }
        return digests;
    }

    /** The numbers of an object, but for how many states are saved, and those behind each undo. */
    private static List<List<Integer>> states(TideFares x) {
        List<List<Integer>> states = new ArrayList<>();
        states.add(numbers(x));
        for (int left = x.count(4); left > 0; left--) {
            x.undo();
            states.add(numbers(x));
        }
        return states;
    }

    private static List<Integer> numbers(TideFares x) {
        List<Integer> numbers = new ArrayList<>();
        int ferries = x.count(0);
        numbers.add(ferries);
        numbers.add(x.setting(0));
        numbers.add(x.setting(1));
        for (int ferry = 0; ferry < ferries; ferry++) {
            for (int what = 0; what < 9; what++) {
                numbers.add(x.ferryOf(ferry, what));
            }
        }
        for (int traveller = 0; traveller < 4; traveller++) {
            for (int what = 0; what < 5; what++) {
                numbers.add(x.traveller(traveller, what));
            }
        }
        return numbers;
    }
}
