/** Promises 7 to 9, 16, 19 and 21: travellers who are placed, wait, pay and go. */
public final class TravellersTest {
    public static void main(String[] args) {
        place();
        rest();
        take();
        takeRefused();
        traveller();
        count();
        refusal();
        Checks.end("TravellersTest");
    }

    private static void place() {
        TideFares x = Checks.with("ab@0/10+5$3");
        x.take(3, 0);
        Checks.due("place(3, 7, 1439, 999)", 44, x.place(3, 7, 1439, 999));
        int[] due = {7, 1439, 999, 1, 6};
        for (int what = 0; what < 5; what++) {
            Checks.due("place: traveller(3, " + what + ")", due[what], x.traveller(3, what));
        }
        Checks.due("place(3, 0, 0, 0)", 999, x.place(3, 0, 0, 0));
        Checks.due("place: the others stay", 50, x.traveller(2, 2));
        Checks.noIndex(x, "place(-1, ..)", () -> x.place(-1, 0, 0, 0));
        Checks.noIndex(x, "place(4, ..)", () -> x.place(4, 0, 0, 0));
        Checks.noIndex(x, "place(0, -1, ..)", () -> x.place(0, -1, 0, 0));
        Checks.noIndex(x, "place(0, 8, ..)", () -> x.place(0, 8, 0, 0));
        Checks.noIndex(x, "place(0, 8, -1, ..)", () -> x.place(0, 8, -1, 1000));
        Checks.noArgument(x, "place(0, 0, -1, 0)", () -> x.place(0, 0, -1, 0));
        Checks.noArgument(x, "place(0, 0, 1440, 0)", () -> x.place(0, 0, 1440, 0));
        Checks.noArgument(x, "place(0, 0, 0, -1)", () -> x.place(0, 0, 0, -1));
        Checks.noArgument(x, "place(0, 0, 0, 1000)", () -> x.place(0, 0, 0, 1000));
    }

    private static void rest() {
        TideFares x = Checks.with("ab@0/1+99$0");
        Checks.due("rest(1, 1)", 1, x.rest(1, 1));
        Checks.due("rest(1, 720)", 721, x.rest(1, 720));
        Checks.due("rest(1, 718)", 1439, x.rest(1, 718));
        Checks.due("rest: traveller(1, 1)", 1439, x.traveller(1, 1));
        Checks.due("rest: traveller(0, 1)", 0, x.traveller(0, 1));
        Checks.noState(x, "rest(1, 1) at 1439", () -> x.rest(1, 1));
        Checks.noArgument(x, "rest(1, 0) at 1439", () -> x.rest(1, 0));
        Checks.noArgument(x, "rest(1, 721) at 1439", () -> x.rest(1, 721));
        Checks.noArgument(x, "rest(0, 0)", () -> x.rest(0, 0));
        Checks.noArgument(x, "rest(0, -1)", () -> x.rest(0, -1));
        Checks.noArgument(x, "rest(0, 721)", () -> x.rest(0, 721));
        Checks.noIndex(x, "rest(4, 0)", () -> x.rest(4, 0));
        Checks.noIndex(x, "rest(-1, 1)", () -> x.rest(-1, 1));
        x.take(1, 0);
        Checks.due("a minute behind 1439", 1538, x.traveller(1, 1));
        Checks.noState(x, "rest(1, 1) at 1538", () -> x.rest(1, 1));
        x.place(2, 0, 720, 0);
        Checks.noState(x, "rest(2, 720) at 720", () -> x.rest(2, 720));
        Checks.due("rest(2, 719) at 720", 1439, x.rest(2, 719));
    }

    private static void take() {
        TideFares x = Checks.with("ab@10/30+20$5;ba@30/20+10$8");
        Checks.due("take(0, 0): it is dear at 10", 30, x.take(0, 0));
        int[] first = {1, 30, 40, 1, 10};
        for (int what = 0; what < 5; what++) {
            Checks.due("take: traveller(0, " + what + ")", first[what], x.traveller(0, what));
        }
        Checks.due("take(0, 1): at once, at 30", 40, x.take(0, 1));
        int[] second = {0, 40, 32, 2, 18};
        for (int what = 0; what < 5; what++) {
            Checks.due("take twice: traveller(0, " + what + ")", second[what], x.traveller(0, what));
        }
        Checks.due("take: ferryOf(0, 8)", 1, x.ferryOf(0, 8));
        Checks.due("take: ferryOf(1, 8)", 1, x.ferryOf(1, 8));
        x.place(2, 0, 0, 10);
        Checks.due("take with the last coins", 30, x.take(2, 0));
        Checks.due("take with the last coins: none left", 0, x.traveller(2, 2));
    }

    private static void takeRefused() {
        TideFares x = Checks.with("ab@10/30+20$5;ba@30/20+10$8_");
        Checks.noState(x, "take from another island", () -> x.take(0, 1));
        x.place(0, 0, 10, 9);
        Checks.noState(x, "take with one coin too few", () -> x.take(0, 0));
        x.place(0, 0, 1421, 999);
        Checks.noState(x, "take when it has left", () -> x.take(0, 0));
        Checks.noIndex(x, "take(4, 0)", () -> x.take(4, 0));
        Checks.noIndex(x, "take(-1, 0)", () -> x.take(-1, 0));
        Checks.noIndex(x, "take(0, 2)", () -> x.take(0, 2));
        Checks.noIndex(x, "take(0, -1)", () -> x.take(0, -1));
    }

    private static void traveller() {
        TideFares x = new TideFares();
        x.place(2, 5, 77, 123);
        Checks.due("traveller(2, 0)", 5, x.traveller(2, 0));
        Checks.due("traveller(2, 1)", 77, x.traveller(2, 1));
        Checks.due("traveller(2, 2)", 123, x.traveller(2, 2));
        Checks.noIndex(x, "traveller(-1, 0)", () -> x.traveller(-1, 0));
        Checks.noIndex(x, "traveller(4, 5)", () -> x.traveller(4, 5));
        Checks.noArgument(x, "traveller(0, -1)", () -> x.traveller(0, -1));
        Checks.noArgument(x, "traveller(0, 5)", () -> x.traveller(0, 5));
    }

    private static void count() {
        TideFares x = Checks.with("ab@10/30+20$5;ba@30/20+10$8");
        x.take(0, 0);
        x.take(1, 0);
        x.take(1, 1);
        Checks.due("count(0)", 2, x.count(0));
        Checks.due("count(1)", 3, x.count(1));
        Checks.due("count(2)", 28, x.count(2));
        Checks.due("count(3)", 172, x.count(3));
        Checks.due("count(4)", 4, x.count(4));
        x.place(0, 0, 0, 0);
        x.drop(0);
        Checks.due("count(1) stays", 3, x.count(1));
        Checks.due("count(2) stays", 28, x.count(2));
        Checks.due("count(3) behind place", 132, x.count(3));
        Checks.due("count(4): six saved states", 6, x.count(4));
        x.set(1, 1);
        Checks.due("count(4): no more than six", 6, x.count(4));
        Checks.noArgument(x, "count(-1)", () -> x.count(-1));
        Checks.noArgument(x, "count(5)", () -> x.count(5));
    }

    private static void refusal() {
        TideFares x = Checks.with("ab@10/30+20$5;ba@30/20+10$8^;ac@0/1+1$6");
        Checks.due("refusal(0, 0)", 0, x.refusal(0, 0));
        Checks.due("refusal(0, 1)", 1, x.refusal(0, 1));
        x.place(0, 0, 0, 9);
        Checks.due("refusal: one coin too few", 3, x.refusal(0, 0));
        x.place(0, 0, 11, 9);
        Checks.due("refusal: cheap at 40", 0, x.refusal(0, 0));
        x.place(0, 0, 11, 4);
        Checks.due("refusal: too dear at 40", 3, x.refusal(0, 0));
        x.place(0, 0, 59, 11);
        Checks.due("refusal: as it costs at 59", 0, x.refusal(0, 2));
        x.place(0, 0, 60, 11);
        Checks.due("refusal: as it costs at 60", 3, x.refusal(0, 2));
        x.place(0, 0, 1421, 0);
        Checks.due("refusal: it has left, ahead of the purse", 2, x.refusal(0, 0));
        Checks.due("refusal: another island, ahead of all", 1, x.refusal(0, 1));
        x.place(0, 1, 1080, 999);
        Checks.due("refusal: no high tide any more", 2, x.refusal(0, 1));
        x.place(0, 1, 350, 999);
        Checks.due("refusal: high tide comes back", 0, x.refusal(0, 1));
        Checks.noIndex(x, "refusal(-1, 0)", () -> x.refusal(-1, 0));
        Checks.noIndex(x, "refusal(4, 0)", () -> x.refusal(4, 0));
        Checks.noIndex(x, "refusal(0, -1)", () -> x.refusal(0, -1));
        Checks.noIndex(x, "refusal(0, 3)", () -> x.refusal(0, 3));
    }
}
