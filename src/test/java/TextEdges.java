import java.util.HashSet;
import java.util.Set;

/** The sentences of the input text, and the promises 10 to 13. */
final class TextEdges {
    private static final String ISLANDS = "abcdefgh";
    private static final String DIGITS = "0123456789";
    private static final String BEHIND_ZERO = "123456789";
    private static final String PART = "ab@0/1+1$0";
    /** Five parts of 60 characters together. */
    private static final String SIXTY = "ab@0/1+1$0;bc@0/1+1$0;cd@10/10+1$0;de@10/10+1$0_;ef@10/1+1$0";

    private TextEdges() {
    }

    static void all() {
        sixtyCharacters();
        parts();
        partsOfAnyLength();
        twoIslands();
        numbers();
        withoutLeadingZero();
        kinds();
        leftToRight();
        nextCharacters();
        append();
        appendRefused();
        clearBuffer();
        firstError();
        ferries();
        ferriesAreOneCall();
        ferriesNotComplete();
        ferriesTooMany();
    }

    private static TideFares typed(String text) {
        TideFares x = new TideFares();
        Checks.type(x, text);
        return x;
    }

    private static void error(String text, int due) {
        Edge.due("firstError of " + text, due, typed(text).firstError());
        if (due < text.length()) {
            Edge.refused(() -> typed(text), Edge.ARGUMENT, "ferries of " + text, TideFares::ferries);
        }
    }

    private static void whole(String text, int parts) {
        error(text, text.length());
        Edge.due("ferries of " + text, parts, typed(text).ferries());
    }

    private static void sixtyCharacters() {
        Document.says("Input text", "The buffer has at most 60 characters.");
        TideFares x = new TideFares();
        Edge.due("no character", 0, x.firstError());
        for (int length = 1; length <= 60; length++) {
            Edge.due("the character " + length, length, x.append(SIXTY.charAt(length - 1)));
            Edge.due("firstError of " + length, length, x.firstError());
        }
        Edge.refused(() -> typed(SIXTY), Edge.STATE, "a 61st character", y -> y.append(';'));
        Edge.due("ferries of 60 characters", 5, x.ferries());
        Edge.due("the buffer is empty then", 0, x.clearBuffer());
        Edge.due("the last ferry: from", 4, x.ferryOf(4, 0));
        Edge.due("the last ferry: its fare", 0, x.ferryOf(4, 5));
        Edge.due("the last ferry but one: its kind", 2, x.ferryOf(3, 6));
        String oneLess = SIXTY.replace("ef@10", "ef@1");
        Edge.due("59 characters", 59, typed(oneLess).firstError());
        Edge.due("ferries of 59 characters", 5, typed(oneLess).ferries());
    }

    private static void parts() {
        Document.says("Input text", "Ferries as a text are one or more parts with \";\" between them,");
        StringBuilder text = new StringBuilder(PART);
        for (int parts = 1; parts <= 5; parts++) {
            whole(text.toString(), parts);
            error(text + ";", text.length() + 1);
            Edge.refused(() -> typed(text + ";"), Edge.ARGUMENT, "ferries of " + text + ";", TideFares::ferries);
            error(text + ";;", text.length() + 1);
            error(text + "," + "ab", text.length());
            error(text + "ab", text.length());
            text.append(';').append(PART);
        }
        error(";", 0);
        error(";" + PART, 0);
        Edge.refused(TideFares::new, Edge.ARGUMENT, "ferries of no part", TideFares::ferries);
    }

    /** The sixth part does not get complete in the buffer, but ferries as a text begin with it. */
    private static void partsOfAnyLength() {
        Document.says("Input text", "of any length,");
        String five = PART + ";" + PART + ";" + PART + ";" + PART + ";" + PART + ";";
        error(five, 55);
        error(five + "gh@0/", 60);
        error(five + "gh@20", 60);
        error(five + "gh@00", 59);
        error(five + "gh@/0", 58);
        error(five + "gg@0/", 56);
        error(five + ";h@0/", 55);
        Edge.refused(() -> typed(five + "gh@0/"), Edge.ARGUMENT, "ferries of five parts and a half",
                TideFares::ferries);
    }

    private static void twoIslands() {
        Document.says("Input text", "each two islands, which are not the same,");
        for (int from = 0; from < 8; from++) {
            for (int to = 0; to < 8; to++) {
                String text = "" + ISLANDS.charAt(from) + ISLANDS.charAt(to) + "@0/1+1$0";
                if (from == to) {
                    error(text, 1);
                    error(PART + ";" + text, 12);
                } else {
                    whole(text, 1);
                    TideFares x = typed(PART + ";" + text);
                    x.ferries();
                    Edge.due(text + ": from", from, x.ferryOf(1, 0));
                    Edge.due(text + ": to", to, x.ferryOf(1, 1));
                }
            }
        }
        whole("ab@0/1+1$0;bc@0/1+1$0;ba@0/1+1$0;ab@0/1+1$0", 4);
    }

    /** All numbers with up to four digits, and what a part holds of them. */
    private static void numbers() {
        Document.says("Input text", "\"@\", a first minute, 0 to 199,");
        number("ab@", "/1+1$0", 2, 0, 199);
        Document.says("Input text", "\"/\", an interval, 1 to 199,");
        number("ab@0/", "+1$0", 3, 1, 199);
        Document.says("Input text", "\"+\", the minutes that it needs, 1 to 99,");
        number("ab@0/1+", "$0", 4, 1, 99);
        Document.says("Input text", "\"$\", a fare, 0 to 99,");
        number("ab@0/1+1$", "", 5, 0, 99);
        number("ab@0/1+1$", "^", 5, 0, 99);
    }

    private static void number(String ahead, String behind, int what, int least, int most) {
        Set<String> begun = new HashSet<>();
        for (int number = least; number <= most; number++) {
            String digits = String.valueOf(number);
            for (int length = 1; length <= digits.length(); length++) {
                begun.add(digits.substring(0, length));
            }
        }
        for (int number = 0; number <= 1100; number++) {
            String digits = String.valueOf(number);
            int good = 0;
            while (good < digits.length() && begun.contains(digits.substring(0, good + 1))) {
                good++;
            }
            String text = ahead + digits + behind;
            if (good < digits.length()) {
                Edge.due("firstError of " + text, ahead.length() + good, typed(text).firstError());
            } else {
                TideFares x = typed(text);
                Edge.due("firstError of " + text, text.length(), x.firstError());
                Edge.due("ferries of " + text, 1, x.ferries());
                Edge.due(text + ": ferryOf(0, " + what + ")", number, x.ferryOf(0, what));
            }
        }
        error(ahead + "-1", ahead.length());
    }

    private static void withoutLeadingZero() {
        Document.says("Input text", "each without a leading zero,");
        error("ab@00", 4);
        error("ab@01", 4);
        error("ab@09/1+1$0", 4);
        error("ab@0/01", 5);
        error("ab@0/001+1$0", 5);
        error("ab@0/1+01", 7);
        error("ab@0/1+09$0", 7);
        error("ab@0/1+1$00", 10);
        error("ab@0/1+1$05", 10);
        whole("ab@0/1+1$0", 1);
        whole("ab@100/100+10$10", 1);
    }

    private static void kinds() {
        Document.says("Input text", "and perhaps \"^\" (kind 1) or \"_\" (kind 2).");
        String[] texts = {"ab@0/1+1$0", "ab@0/1+1$0^", "ab@0/1+1$0_", "ab@0/1+1$99", "ab@0/1+1$99^", "ab@0/1+1$99_"};
        for (int i = 0; i < texts.length; i++) {
            whole(texts[i], 1);
            TideFares x = Checks.with(texts[i] + ";" + PART);
            Edge.due(texts[i] + ": its kind", i % 3, x.ferryOf(0, 6));
            Edge.due(texts[i] + ": the kind of the next one", 0, x.ferryOf(1, 6));
            TideFares y = Checks.with(PART + "^;" + texts[i]);
            Edge.due(texts[i] + ": its kind as the second part", i % 3, y.ferryOf(1, 6));
        }
        error("ab@0/1+1$0^^", 11);
        error("ab@0/1+1$0^_", 11);
        error("ab@0/1+1$0_^", 11);
        error("ab@0/1+1$0^0", 11);
        error("ab@0/1+1$^", 9);
        error("ab@0/1+1_", 8);
        error("^" + PART, 0);
        TideFares x = Checks.with("ab@0/1+1$0^");
        Checks.type(x, PART);
        x.ferries();
        Edge.due("a text behind one with ^: its kind", 0, x.ferryOf(1, 6));
    }

    /** The first one of two errors is told, and what stands behind it does not matter. */
    private static void leftToRight() {
        Document.says("Input text", "The buffer is read from left to right;");
        error("aa@200/0+0$100", 1);
        error("ab@200/0+0$100", 5);
        error("ab@20/0+0$100", 6);
        error("ab@20/1+0$100", 8);
        error("ab@20/1+1$100", 12);
        error("ab@20/1+1$10", 12);
        error("ba@0$1+1/1", 4);
        error("0$1+1/0@ba", 0);
        error("~", 0);
        error("!" + SIXTY.substring(0, 59), 0);
        error(SIXTY.substring(0, 59) + "~", 59);
    }

    private static final String[][] NEXT = {
        {"", ISLANDS}, {"a", "bcdefgh"}, {"d", "abcefgh"}, {"h", "abcdefg"}, {"ab", "@"}, {"ha", "@"},
        {"ab@", DIGITS}, {"ab@0", "/"}, {"ab@1", DIGITS + "/"}, {"ab@2", DIGITS + "/"}, {"ab@9", DIGITS + "/"},
        {"ab@10", DIGITS + "/"}, {"ab@19", DIGITS + "/"}, {"ab@20", "/"}, {"ab@99", "/"}, {"ab@100", "/"},
        {"ab@199", "/"}, {"ab@0/", BEHIND_ZERO}, {"ab@0/1", DIGITS + "+"}, {"ab@0/2", DIGITS + "+"},
        {"ab@0/9", DIGITS + "+"}, {"ab@0/10", DIGITS + "+"}, {"ab@0/19", DIGITS + "+"}, {"ab@0/20", "+"},
        {"ab@0/99", "+"}, {"ab@0/100", "+"}, {"ab@0/199", "+"}, {"ab@0/1+", BEHIND_ZERO}, {"ab@0/1+1", DIGITS + "$"},
        {"ab@0/1+9", DIGITS + "$"}, {"ab@0/1+10", "$"}, {"ab@0/1+99", "$"}, {"ab@0/1+1$", DIGITS},
        {"ab@0/1+1$0", "^_;"}, {"ab@0/1+1$1", DIGITS + "^_;"}, {"ab@0/1+1$9", DIGITS + "^_;"},
        {"ab@0/1+1$10", "^_;"}, {"ab@0/1+1$99", "^_;"}, {"ab@0/1+1$0^", ";"}, {"ab@0/1+1$0_", ";"},
        {"ab@0/1+1$0;", ISLANDS}, {"ab@0/1+1$0^;", ISLANDS}, {"ab@0/1+1$0_;a", "bcdefgh"},
        {"ab@0/1+1$0;h", "abcdefg"}, {"ab@0/1+1$0;ba", "@"}, {"ab@0/1+1$0;cd@", DIGITS},
    };

    private static void nextCharacters() {
        Document.says("Input text", "a character is a syntax error if no ferries as a text, of any length, "
                + "begin with the characters before it and this character.");
        for (String[] next : NEXT) {
            for (char sign = 33; sign <= 126; sign++) {
                String text = next[0] + sign;
                boolean good = next[1].indexOf(sign) >= 0;
                Edge.due("firstError of " + text, good ? text.length() : next[0].length(), typed(text).firstError());
                if (!good) {
                    Edge.due("firstError of " + text + "b@", next[0].length(), typed(text + "b@").firstError());
                }
            }
        }
    }

    private static void append() {
        Document.says("Promise 10", "Appends a character to the buffer.", "Returns the new length of the buffer.");
        TideFares x = new TideFares();
        for (int code = 33; code <= 92; code++) {
            Edge.due("append(" + code + ")", code - 32, x.append(code));
        }
        Edge.due("all of them are there", 60, x.clearBuffer());
        for (int code = 93; code <= 126; code++) {
            Edge.due("append(" + code + ")", code - 92, x.append(code));
        }
        Edge.due("append is not undoable", 0, x.count(4));
        Document.says("Promise 10", "- `code`: the character code, 33 to 126");
        Edge.range(Edge::busy, Edge.ARGUMENT, "append", 33, 126, (y, code) -> {
            Edge.due("append behind five", 6, y.append(code));
            return code;
        });
    }

    private static void appendRefused() {
        Document.says("Promise 10", "Throws `IllegalArgumentException` if code is not 33 to 126");
        int[] codes = {32, 127, 0, -1, 128, 255, 33 + 65536, Integer.MIN_VALUE, Integer.MAX_VALUE};
        for (int code : codes) {
            Edge.refused(Edge::busy, Edge.ARGUMENT, "append(" + code + ")", x -> x.append(code));
            Edge.refused(() -> typed(SIXTY), Edge.ARGUMENT, "append(" + code + ") to 60", x -> x.append(code));
        }
        Document.says("Promise 10", "Throws `IllegalStateException` if the buffer has 60 characters");
        Edge.refused(() -> typed(SIXTY), Edge.STATE, "append(33) to 60", x -> x.append(33));
        Edge.refused(() -> typed(SIXTY), Edge.STATE, "append(126) to 60", x -> x.append(126));
        Edge.due("append to 59", 60, typed(SIXTY.substring(0, 59)).append(33));
        Edge.due("append to 58", 59, typed(SIXTY.substring(0, 58)).append(33));
        TideFares x = typed(SIXTY);
        x.clearBuffer();
        Edge.due("append behind clearBuffer of 60", 1, x.append(33));
    }

    private static void clearBuffer() {
        Document.says("Promise 11", "Clears the buffer.", "Returns the length that it had.");
        Edge.due("none", 0, new TideFares().clearBuffer());
        Edge.due("one", 1, typed("a").clearBuffer());
        Edge.due("59", 59, typed(SIXTY.substring(1)).clearBuffer());
        TideFares x = typed(SIXTY);
        Edge.due("60", 60, x.clearBuffer());
        Edge.due("60, cleared", 0, x.clearBuffer());
        Edge.due("60, cleared: firstError", 0, x.firstError());
        Edge.due("60, cleared: the digest", new TideFares().digest(), x.digest());
        Checks.type(x, "a");
        Edge.due("what was there does not come back", 1, x.firstError());
        Edge.due("clearBuffer is not undoable", 0, x.count(4));
        TideFares y = Edge.busy();
        y.clearBuffer();
        y.undo();
        Edge.due("undo does not bring the buffer back", 0, y.clearBuffer());
    }

    private static void firstError() {
        Document.says("Promise 12", "Finds the first syntax error of the buffer.");
        Document.says("Promise 12", "Returns the index of the first character that is a syntax error; "
                + "the length of the buffer if there is none.");
        error("", 0);
        error("i", 0);
        error("a", 1);
        error("ai", 1);
        error(PART, 10);
        error(PART + "a", 10);
        error(PART + ";", 11);
        error(SIXTY, 60);
        error(SIXTY.substring(0, 59) + "a", 59);
        Edge.looks(() -> typed(SIXTY), "firstError of 60", TideFares::firstError);
        Edge.looks(() -> typed("ab@0/1+1$0^;aa"), "firstError of an error", TideFares::firstError);
        Edge.looks(Edge::busy, "firstError of a text begun", TideFares::firstError);
    }

    private static void ferries() {
        Document.says("Promise 13", "Tells the ferries in the buffer, all or none, and clears the buffer.");
        Document.says("Promise 13", "Returns how many ferries there are then.");
        TideFares x = new TideFares();
        x.ferry(7, 0, 1, 2, 3, 4);
        Checks.type(x, "ab@10/30+20$5;ha@199/199+99$99^;cd@0/1+1$0_");
        Edge.due("ferries()", 4, x.ferries());
        int[][] due = {{7, 0, 1, 2, 3, 4, 0, 0, 0}, {0, 1, 10, 30, 20, 5, 0, 0, 0}, {7, 0, 199, 199, 99, 99, 1, 0, 0},
            {2, 3, 0, 1, 1, 0, 2, 0, 0}};
        for (int ferry = 0; ferry < 4; ferry++) {
            for (int what = 0; what < 9; what++) {
                Edge.due("ferryOf(" + ferry + ", " + what + ")", due[ferry][what], x.ferryOf(ferry, what));
            }
        }
        Edge.due("the buffer is clear", 0, x.firstError());
        Edge.refused(() -> Checks.with(PART), Edge.ARGUMENT, "ferries() once more", TideFares::ferries);
        Checks.type(x, PART);
        Edge.due("one more", 5, x.ferries());
    }

    private static void ferriesAreOneCall() {
        Document.says("Promise 13", "Undoable, as one call.");
        Edge.undoable("ferries of one part", x -> {
            Checks.type(x, PART);
            return x.ferries();
        });
        Edge.undoable("ferries of two parts", x -> {
            Checks.type(x, PART + ";bc@1/2+3$4_");
            return x.ferries();
        });
        TideFares x = typed(SIXTY);
        x.ferries();
        Edge.due("five parts: count(4)", 1, x.count(4));
        Checks.type(x, "xyz");
        Edge.due("undo of five parts", 0, x.undo());
        Edge.due("none of them is left", 0, x.count(0));
        Edge.due("the buffer stays as it is", 3, x.clearBuffer());
    }

    private static void ferriesNotComplete() {
        Document.says("Promise 13", "Throws `IllegalArgumentException` if the buffer is not complete ferries "
                + "as a text");
        String two = PART + ";cd@1/2+3$4^";
        for (int length = 0; length <= two.length(); length++) {
            String text = two.substring(0, length);
            boolean complete = length == 10 || length >= 21;
            if (complete) {
                Edge.due("ferries of " + text, length == 10 ? 1 : 2, typed(text).ferries());
            } else {
                Edge.refused(() -> typed(text), Edge.ARGUMENT, "ferries of " + text, TideFares::ferries);
            }
        }
        Edge.refused(() -> typed(PART + "0"), Edge.ARGUMENT, "ferries with an error at the end", TideFares::ferries);
        Edge.refused(() -> typed("x" + PART), Edge.ARGUMENT, "ferries with an error at first", TideFares::ferries);
        Edge.refused(Edge::busy, Edge.ARGUMENT, "ferries of a text begun", TideFares::ferries);
        Edge.refused(Edge::full, Edge.ARGUMENT, "ferries of none, with 14 of them", TideFares::ferries);
        Edge.refused(() -> filled(14, PART + ";"), Edge.ARGUMENT, "not complete, and too many", TideFares::ferries);
        Edge.refused(() -> filled(13, PART + ";" + PART + "0"), Edge.ARGUMENT, "wrong, and too many",
                TideFares::ferries);
    }

    /** So many ferries, and a text. */
    private static TideFares filled(int ferries, String text) {
        TideFares x = new TideFares();
        for (int ferry = 0; ferry < ferries; ferry++) {
            x.ferry(0, 1, ferry, 1, 1, 1);
        }
        Checks.type(x, text);
        return x;
    }

    private static void ferriesTooMany() {
        Document.says("Promise 13", "Throws `IllegalStateException` if there would be more than 14");
        StringBuilder text = new StringBuilder(PART);
        for (int parts = 1; parts <= 5; parts++) {
            String told = text.toString();
            Edge.due(parts + " parts up to 13", 13, filled(13 - parts, told).ferries());
            Edge.due(parts + " parts up to 14", 14, filled(14 - parts, told).ferries());
            for (int ferries = 15 - parts; ferries <= 14; ferries++) {
                int before = ferries;
                Edge.refused(() -> filled(before, told), Edge.STATE, parts + " parts more than " + ferries,
                        TideFares::ferries);
            }
            text.append(';').append(PART);
        }
    }
}
