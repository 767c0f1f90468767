/** Promises 10 to 14: the buffer, ferries as a text, and undo. */
public final class TextsTest {
    public static void main(String[] args) {
        append();
        clearBuffer();
        firstErrors();
        ferries();
        ferriesRefused();
        undo();
        undoAll();
        undoSavesSix();
        Checks.end("TextsTest");
    }

    private static void append() {
        TideFares x = new TideFares();
        Checks.due("append(33)", 1, x.append(33));
        Checks.due("append(126)", 2, x.append(126));
        Checks.noArgument(x, "append(32)", () -> x.append(32));
        Checks.noArgument(x, "append(127)", () -> x.append(127));
        Checks.noArgument(x, "append(-1)", () -> x.append(-1));
        for (int length = 3; length <= 60; length++) {
            Checks.due("append: length " + length, length, x.append('a'));
        }
        Checks.noState(x, "append to 60", () -> x.append('a'));
        Checks.noArgument(x, "append(32) to 60", () -> x.append(32));
        Checks.due("append is not undoable", 0, x.count(4));
    }

    private static void clearBuffer() {
        TideFares x = new TideFares();
        Checks.due("clearBuffer of none", 0, x.clearBuffer());
        Checks.type(x, "ab@");
        Checks.due("clearBuffer of 3", 3, x.clearBuffer());
        Checks.due("clearBuffer again", 0, x.clearBuffer());
        Checks.due("append behind clearBuffer", 1, x.append('h'));
        Checks.due("clearBuffer is not undoable", 0, x.count(4));
    }

    private static void error(String text, int due) {
        TideFares x = new TideFares();
        Checks.type(x, text);
        long before = x.digest();
        Checks.due("firstError of " + text, due, x.firstError());
        Checks.due("firstError of " + text + " changes nothing", before, x.digest());
        if (due < text.length()) {
            Checks.noArgument(x, "ferries of " + text, x::ferries);
        }
    }

    private static void firstErrors() {
        String[] wholes = {"ab@0/1+1$0", "ha@199/199+99$99_", "gh@20/20+20$20^", "ab@9/9+9$9;cd@0/1+1$0",
            "ab@1/1+1$1^;cd@100/190+10$10_;ef@0/1+1$0;gh@0/1+1$0^"};
        for (String whole : wholes) {
            for (int length = 0; length <= whole.length(); length++) {
                error(whole.substring(0, length), length);
            }
        }
        String[] wrong = {"i", "A", "@", ";", "1", "aa", "ai", "a@", "ab/", "ab0", "abc", "ab@/", "ab@;", "ab@00", "ab@01",
            "ab@200", "ab@1999", "ab@30a", "ab@300", "ab@0+", "ab@0/0", "ab@0/+", "ab@0/200", "ab@0/201", "ab@0/1999",
            "ab@0/1/", "ab@0/1+0", "ab@0/1+$", "ab@0/1+100", "ab@0/1+1+", "ab@0/1+1;", "ab@0/1+1$^", "ab@0/1+1$;",
            "ab@0/1+1$00", "ab@0/1+1$09", "ab@0/1+1$100", "ab@0/1+1$0a", "ab@0/1+1$0$", "ab@0/1+1$0^^",
            "ab@0/1+1$0^_", "ab@0/1+1$0^1", "ab@0/1+1$0_a", "ab@0/1+1$0;;", "ab@0/1+1$0;cc", "ab@0/1+1$0^;hh",
            "ab@0/1+1$0;1", "ab@0-", "ab@-", "ab@0/1+1$0;ab@200"};
        for (String text : wrong) {
            error(text, text.length() - 1);
            error(text + "b@0/1+1$0", text.length() - 1);
        }
        String full = "ab@0/1+1$0;bc@0/1+1$0;cd@0/1+1$0;de@0/1+1$0;ef@0/1+1$0;fg@0/";
        error(full.substring(0, 60), 60);
        error("ab@0/1+1$0;bc@0/1+1$0;cd@0/1+1$0;de@0/1+1$0;ef@0/1+1$0;fg@00", 59);
        error("ab@0/1+1$0;bc@0/1+1$0;cd@0/1+1$0;de@0/1+1$0;ef@0/1+1$0;ff@00", 56);
    }

    private static void ferries() {
        TideFares x = new TideFares();
        x.ferry(7, 0, 1, 2, 3, 4);
        Checks.type(x, "ab@10/30+20$5;ba@199/199+99$99^;cd@0/1+1$0_");
        Checks.due("ferries()", 4, x.ferries());
        int[][] due = {{7, 0, 1, 2, 3, 4, 0, 0, 0}, {0, 1, 10, 30, 20, 5, 0, 0, 0},
            {1, 0, 199, 199, 99, 99, 1, 0, 0}, {2, 3, 0, 1, 1, 0, 2, 0, 0}};
        for (int ferry = 0; ferry < 4; ferry++) {
            for (int what = 0; what < 9; what++) {
                Checks.due("ferryOf(" + ferry + ", " + what + ")", due[ferry][what], x.ferryOf(ferry, what));
            }
        }
        Checks.due("ferries clears the buffer", 0, x.clearBuffer());
        Checks.due("ferries is one call to undo", 2, x.count(4));
        Checks.type(x, "abc");
        Checks.due("undo of ferries", 1, x.undo());
        Checks.due("undo of ferries: count(0)", 1, x.count(0));
        Checks.due("undo of ferries leaves the buffer", 3, x.clearBuffer());
        Checks.type(x, "ab@0/1+1$0;bc@0/1+1$0;cd@0/1+1$0;de@0/1+1$0;ef@0/1+1$0_");
        Checks.due("ferries: five of them", 6, x.ferries());
        Checks.due("ferries: the fifth", 5, x.ferryOf(5, 1));
        Checks.due("ferries: the kind of the fifth", 2, x.ferryOf(5, 6));
        Checks.due("ferries: the kind of the fourth", 0, x.ferryOf(4, 6));
        Checks.type(x, "ab@0/1+1$0^");
        Checks.due("ferries: one more", 7, x.ferries());
        Checks.type(x, "ab@0/1+1$0");
        Checks.due("ferries: another one", 8, x.ferries());
        Checks.due("ferries: the kind of the one", 1, x.ferryOf(6, 6));
        Checks.due("ferries: the kind of the other one", 0, x.ferryOf(7, 6));
    }

    private static void ferriesRefused() {
        TideFares x = new TideFares();
        Checks.noArgument(x, "ferries of no text", x::ferries);
        String[] parts = {"a", "ab", "ab@", "ab@1", "ab@1/", "ab@1/1", "ab@1/1+", "ab@1/1+1", "ab@1/1+1$", "ab@1/1+1$1;",
            "ab@1/1+1$1^;", "ab@1/1+1$1;b", "ab@1/1+1$1;bc@1/1+1"};
        for (String part : parts) {
            x.clearBuffer();
            Checks.type(x, part);
            Checks.noArgument(x, "ferries of " + part, x::ferries);
            Checks.due("ferries of " + part + " keeps the buffer", part.length(), x.clearBuffer());
        }
        for (int ferry = 0; ferry < 12; ferry++) {
            x.ferry(0, 1, 0, 1, 1, 1);
        }
        Checks.type(x, "ab@0/1+1$0;ab@0/1+1$0;ab@0/1+1$0");
        Checks.noState(x, "ferries: 15 of them", x::ferries);
        Checks.due("ferries refused: the buffer stays", 33, x.append(';'));
        Checks.noArgument(x, "ferries: not complete, and too many", x::ferries);
        x.clearBuffer();
        Checks.type(x, "ab@0/1+1$0;ab@0/1+1$0");
        Checks.due("ferries: 14 of them", 14, x.ferries());
    }

    private static void undo() {
        TideFares x = new TideFares();
        Checks.noState(x, "undo of nothing", x::undo);
        x.ferry(0, 1, 0, 10, 5, 3);
        x.take(0, 0);
        Checks.type(x, "xyz");
        Checks.due("undo of take", 1, x.undo());
        Checks.due("undo of take: the island", 0, x.traveller(0, 0));
        Checks.due("undo of take: the minute", 0, x.traveller(0, 1));
        Checks.due("undo of take: the purse", 50, x.traveller(0, 2));
        Checks.due("undo of take: not taken", 0, x.count(1));
        Checks.due("undo of take: not paid", 0, x.count(2));
        Checks.due("undo of take: of the ferry", 0, x.ferryOf(0, 8));
        Checks.due("undo leaves the buffer", 3, x.clearBuffer());
        Checks.due("undo of ferry", 0, x.undo());
        Checks.due("undo of ferry: none", 0, x.count(0));
        Checks.noState(x, "undo of nothing more", x::undo);
    }

    /** Each undoable call saves one state, also if it changes nothing, and undo brings all of it back. */
    private static void undoAll() {
        TideFares x = Checks.with("ab@0/10+5$3^;bc@0/10+5$3;ad@3/1+1$4_");
        x.clock(0, 5);
        x.take(1, 0);
        x.undo();
        x.undo();
        x.undo();
        Checks.due("no state is saved", 0, x.count(4));
        Checks.type(x, "ab@0/10+5$3^;bc@0/10+5$3;ad@3/1+1$4_");
        long empty = x.digest();
        undone(x, "ferry", () -> x.ferry(0, 1, 2, 3, 4, 5));
        x.ferry(0, 1, 0, 10, 5, 3);
        long before = x.digest();
        undone(x, "drop", () -> x.drop(0));
        undone(x, "kind", () -> x.kind(0, 2));
        undone(x, "kind to the same", () -> x.kind(0, 0));
        undone(x, "clock", () -> x.clock(0, 9));
        undone(x, "clock to the same", () -> x.clock(0, 0));
        undone(x, "set(0)", () -> x.set(0, 9));
        undone(x, "set(1)", () -> x.set(1, 9));
        undone(x, "set to the same", () -> x.set(1, 30));
        undone(x, "place", () -> x.place(3, 2, 1, 0));
        undone(x, "place to the same", () -> x.place(3, 0, 0, 50));
        undone(x, "rest", () -> x.rest(2, 20));
        undone(x, "take", () -> x.take(2, 0));
        Checks.due("the digest as before", before, x.digest());
        x.undo();
        Checks.due("the digest as at first", empty, x.digest());
        Checks.due("ferries", 3, x.ferries());
        x.undo();
        Checks.type(x, "ab@0/10+5$3^;bc@0/10+5$3;ad@3/1+1$4_");
        Checks.due("the digest as at first, behind ferries", empty, x.digest());
    }

    private static void undone(TideFares x, String call, Checks.Call made) {
        long before = x.digest();
        int saved = x.count(4);
        made.answer();
        Checks.due(call + " saves one state", saved + 1, x.count(4));
        Checks.due("undo of " + call, saved, x.undo());
        Checks.due("undo of " + call + ": the digest", before, x.digest());
    }

    private static void undoSavesSix() {
        TideFares x = new TideFares();
        for (int value = 1; value <= 20; value++) {
            x.set(0, value);
            Checks.due("saved states", Math.min(value, 6), x.count(4));
        }
        for (int left = 5; left >= 3; left--) {
            Checks.due("undo, " + left + " left", left, x.undo());
            Checks.due("undo: setting(0)", 14 + left, x.setting(0));
        }
        for (int value = 101; value <= 105; value++) {
            x.set(0, value);
        }
        int[] due = {104, 103, 102, 101, 17, 16};
        for (int undone = 0; undone < 6; undone++) {
            Checks.due("undo again", 5 - undone, x.undo());
            Checks.due("undo again: setting(0)", due[undone], x.setting(0));
        }
        Checks.noState(x, "undo of more than six", x::undo);
    }
}
