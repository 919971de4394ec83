/** Boundary cases of SLIPS, worths, beginnings and PAGES (TERMS VI and VII, promises 23 to 31), sentence by sentence. */
final class HandBoundaries {
    private static final int NOTHING = -2000000000;
    private static final String TWENTY = "abcdefghijklmnopqrst";

    private final Sentences s;

    HandBoundaries(Sentences s) {
        this.s = s;
    }

    void all() {
        slipsOfHands();
        slipRightOrWrong();
        slipOfNone();
        slipOfNoWord();
        handsTold();
        placesNoMore();
        handOfNothing();
        wrongAlike();
        copiedOfNone();
        worthOfLines();
        greatestFirst();
        tapeOfWords();
        rankOfNone();
        rankedLines();
        formsBegun();
        lettersFolded();
        begunForms();
        pagesByOrder();
        rowsOfForms();
        nextPage();
        longerThanPage();
        pagesOfRows();
        pageOfForms();
    }

    // Promises 23 to 25.

    private void slipsOfHands() {
        s.of("Promise 23", "The TAPE (empty then) is the FORM that hand h (0 .. 3) writes for a PLACE of EDITION 0 (in place of an"
            + " older SLIP of his)");
        WordPlaces x = Due.book("a b", "c");
        Due.line(x, 1, "d e f g");
        for (int h = 0; h < 4; h++) {
            for (int p = 0; p < 3; p++) {
                s.is("slip(" + h + ", " + p + ")", Due.slip(x, h, p, "abc".substring(p, p + 1)), 1);
                s.is("the TAPE is empty", x.count(5), 0);
            }
            s.is("hand(" + h + ", 0)", x.hand(h, 0), 3);
            s.is("count(6)", x.count(6), 3 * (h + 1));
        }
        s.is("in place of an older one", Due.slip(x, 1, 1, "q"), 0);
        s.is("hand(1, 0)", x.hand(1, 0), 3);
        s.is("hand(1, 1)", x.hand(1, 1), 1);
        s.is("another hand's stays", x.hand(0, 1), 0);
        s.is("in its place again", Due.slip(x, 1, 1, "b"), 1);
        s.is("hand(1, 1)", x.hand(1, 1), 0);
        s.is("count(6)", x.count(6), 12);
        x = Sentences.ofLetters(Due.times("a", 300));
        s.is("slip(3, 299)", Due.slip(x, 3, 299, "a"), 1);
        s.is("slip(3, 0)", Due.slip(x, 3, 0, "a"), 1);
        s.is("slip(2, 299)", Due.slip(x, 2, 299, "b"), 0);
        s.is("hand(3, 2)", x.hand(3, 2), 298);
        s.is("count(6)", x.count(6), 3);
    }

    private void slipRightOrWrong() {
        s.of("Promise 23", "1 right, 0 wrong.");
        WordPlaces x = Due.book("vinum " + TWENTY + "uv");
        s.is("right", Due.slip(x, 0, 0, "vinum"), 1);
        s.is("wrong", Due.slip(x, 0, 0, "uinum"), 0);
        s.is("shorter", Due.slip(x, 0, 0, "vinu"), 0);
        s.is("longer", Due.slip(x, 0, 0, "vinumm"), 0);
        s.is("20 letters of 22", Due.slip(x, 0, 1, TWENTY), 1);
        s.is("wrong in the 20th", Due.slip(x, 0, 1, TWENTY.substring(0, 19) + "u"), 0);
        s.is("19 letters", Due.slip(x, 0, 1, TWENTY.substring(0, 19)), 0);
        Due.rules(x, "fold v to u;stop uinum;");
        s.is("folded", Due.slip(x, 0, 0, "uinum"), 1);
        s.is("folded", Due.slip(x, 0, 0, "vinum"), 1);
        s.is("the other PLACE's FORM", Due.slip(x, 0, 1, "uinum"), 0);
    }

    private void slipOfNone() {
        s.of("Promise 23", "-2 (the TAPE stays): there are none such;");
        WordPlaces x = Due.book("a b");
        Due.line(x, 1, "a b c");
        Due.put(x, "a");
        for (int h : Sentences.beyond(4)) {
            s.is("slip(" + h + ", 0)", x.slip(h, 0), -2);
        }
        for (int p : Sentences.beyond(2)) {
            s.is("slip(0, " + p + ")", x.slip(0, p), -2);
            s.is("slip(3, " + p + ")", x.slip(3, p), -2);
        }
        s.is("the TAPE stays", x.count(5), 1);
        s.is("no SLIPS", x.count(6), 0);
        s.is("it is a SLIP then", x.slip(0, 0), 1);
        Due.put(x, "a!");
        s.is("-2 of what is no WORD", x.slip(0, 2), -2);
        x.end(0);
        s.is("-2 of nothing", x.slip(4, 0), -2);
        x = Sentences.ofLetters(Due.times("a", 300));
        for (int p : Sentences.beyond(300)) {
            s.is("of 300, slip(0, " + p + ")", x.slip(0, p), -2);
        }
    }

    private void slipOfNoWord() {
        s.of("Promise 23", "-4: it is no WORD (1 .. 20 letters).");
        WordPlaces x = Due.book("a b");
        Due.slip(x, 0, 0, "a");
        for (String text : new String[] {"", Due.times("a", 21), Due.times("a", 60), Due.times("a", 400), " ", "a ", " a", "a b",
            "a-", "-", "A", "aA", "a`", "{a", "a\n", "\u0000", "a\u00e1", Due.times("a", 20) + " ", "5"}) {
            s.is("slip of " + text, Due.slip(x, 0, 0, text), -4);
            s.is("the TAPE is empty", x.count(5), 0);
            s.is("the older SLIP stays", x.hand(0, 1), 0);
            s.is("none at another PLACE", Due.slip(x, 0, 1, text), -4);
            s.is("count(6)", x.count(6), 1);
        }
        for (int size = 1; size <= 20; size++) {
            WordPlaces y = Due.book(Due.times("z", size));
            s.is("slip of " + size, Due.slip(y, 0, 0, Due.times("z", size)), 1);
            s.is("count(6)", y.count(6), 1);
        }
    }

    private void handsTold() {
        s.of("Promise 24", "Of hand h, what 0: SLIPS, 1: wrong ones (by what stands there now;");
        WordPlaces x = Due.book("a b c");
        handIs(x, 0, 0, 0, 3);
        Due.slip(x, 0, 0, "a");
        handIs(x, 0, 1, 0, 2);
        Due.slip(x, 0, 2, "b");
        handIs(x, 0, 2, 1, 1);
        Due.slip(x, 0, 1, "c");
        handIs(x, 0, 3, 2, 0);
        x.keep(0);
        Due.put(x, "x c b").right(0, 0);
        handIs(x, 0, 3, 1, 0);
        Due.line(x, 1, "a");
        Due.line(x, 0, "a");
        handIs(x, 0, 3, 1, 1);
        Due.rules(x, "fold x to a;");
        handIs(x, 0, 3, 0, 1);
        x.rules();
        handIs(x, 0, 3, 1, 1);
        x.back(0);
        handIs(x, 0, 3, 2, 0);
        handIs(x, 3, 0, 0, 3);
    }

    private void handIs(WordPlaces x, int h, int slips, int wrong, int without) {
        s.is("hand(" + h + ", 0)", x.hand(h, 0), slips);
        s.is("hand(" + h + ", 1)", x.hand(h, 1), wrong);
        s.is("hand(" + h + ", 2)", x.hand(h, 2), without);
    }

    private void placesNoMore() {
        s.of("Promise 24", "also those of PLACES that there are no more), 2: PLACES without one.");
        WordPlaces x = Due.book("a b", "c");
        Due.slip(x, 0, 0, "a");
        Due.slip(x, 0, 1, "b");
        Due.slip(x, 0, 2, "c");
        Due.slip(x, 1, 2, "q");
        Due.put(x, "").right(0, 1);
        handIs(x, 0, 3, 1, 0);
        handIs(x, 1, 1, 1, 2);
        handIs(x, 2, 0, 0, 2);
        Due.put(x, "").right(0, 0);
        handIs(x, 0, 3, 3, 0);
        handIs(x, 1, 1, 1, 0);
        Due.put(x, "a b c d").right(0, 0);
        handIs(x, 0, 3, 0, 1);
        handIs(x, 1, 1, 1, 3);
        x = Sentences.ofLetters(Due.times("a", 300));
        Due.slip(x, 3, 299, "a");
        handIs(x, 3, 1, 0, 299);
        Due.put(x, Due.times("a ", 29)).right(0, 9);
        handIs(x, 3, 1, 1, 299);
        s.is("of no LINES", new WordPlaces().hand(0, 2), 0);
    }

    private void handOfNothing() {
        s.of("Promise 24", "NOTHING for others.");
        WordPlaces x = Due.book("a");
        for (int what : Sentences.beyond(3)) {
            s.is("hand(0, " + what + ")", x.hand(0, what), NOTHING);
        }
        for (int h : Sentences.beyond(4)) {
            for (int what = 0; what < 3; what++) {
                s.is("hand(" + h + ", " + what + ")", x.hand(h, what), NOTHING);
            }
        }
    }

    private void wrongAlike() {
        s.of("Promise 25", "SLIPS that two hands have wrong alike: how many.");
        WordPlaces x = Due.book("a b c d e", "f");
        String[] written = {"axxdxf", "axxdxf", "ayxqx", "x"};
        for (int h = 0; h < 4; h++) {
            for (int p = 0; p < written[h].length(); p++) {
                Due.slip(x, h, p, written[h].substring(p, p + 1));
            }
        }
        s.is("copied(0, 1)", x.copied(0, 1), 3);
        s.is("copied(1, 0)", x.copied(1, 0), 3);
        s.is("copied(0, 2)", x.copied(0, 2), 2);
        s.is("copied(2, 3)", x.copied(2, 3), 0);
        s.is("copied(3, 0)", x.copied(3, 0), 0);
        Due.put(x, "").right(0, 1);
        s.is("also where there is no PLACE", x.copied(0, 1), 4);
        Due.put(x, "a x x d x").right(0, 0);
        s.is("what is right now is not wrong", x.copied(0, 1), 1);
        Due.put(x, "z z z z z z").right(0, 0);
        s.is("all six", x.copied(0, 1), 6);
        Due.rules(x, "fold y to x;");
        s.is("alike by a fold", x.copied(0, 2), 4);
        Due.rules(x, "fold z to x;");
        s.is("right by a fold", x.copied(0, 1), 3);
        x = new WordPlaces();
        s.is("of none", x.copied(2, 3), 0);
        x = Sentences.ofLetters(Due.times("a", 300));
        Due.slip(x, 0, 299, "b");
        Due.slip(x, 3, 299, "b");
        s.is("the last of 300", x.copied(0, 3), 1);
        x = Due.book("a");
        Due.slip(x, 0, 0, TWENTY);
        Due.slip(x, 1, 0, TWENTY.substring(0, 19) + "z");
        s.is("unlike in the 20th letter", x.copied(0, 1), 0);
        Due.slip(x, 1, 0, TWENTY.substring(0, 19));
        s.is("unlike without it", x.copied(0, 1), 0);
    }

    private void copiedOfNone() {
        s.of("Promise 25", "-2: there are none such, they are one.");
        WordPlaces x = Due.book("a");
        for (int h = 0; h < 4; h++) {
            Due.slip(x, h, 0, "b");
        }
        for (int h = 0; h < 4; h++) {
            s.is("copied(" + h + ", " + h + ")", x.copied(h, h), -2);
            s.is("copied(" + h + ", another)", x.copied(h, 3 - h), 1);
            for (int other : Sentences.beyond(4)) {
                s.is("copied(" + h + ", " + other + ")", x.copied(h, other), -2);
                s.is("copied(" + other + ", " + h + ")", x.copied(other, h), -2);
            }
        }
        s.is("copied(4, 4)", x.copied(4, 4), -2);
    }

    // TERMS, VI; promises 26 and 27.

    private static String ranking(WordPlaces x) {
        StringBuilder text = new StringBuilder();
        for (int i = 0; i < 41 && x.ranked(i, 0) >= 0; i++) {
            text.append(i > 0 ? " " : "").append(x.ranked(i, 0)).append(':').append(x.ranked(i, 1));
        }
        return text.toString();
    }

    private void rankIs(WordPlaces x, String tape, String want) {
        s.is("rank of " + tape, Due.put(x, tape).rank(0), want.isEmpty() ? 0 : want.split(" ").length);
        s.are("ranked by " + tape, ranking(x), want);
    }

    private void worthOfLines() {
        s.of("VI", "Worth of a LINE: for each different FORM of the TAPE's that begins in it: 1000 by the LINES in which that begins,"
            + " rounded down.");
        WordPlaces x = Due.book("a a b", "b c-", "d a", "a");
        rankIs(x, "a", "0:333 2:333 3:333");
        rankIs(x, "a a  a", "0:333 2:333 3:333");
        rankIs(x, "cd", "1:1000");
        rankIs(x, "b cd", "1:1500 0:500");
        rankIs(x, "d", "");
        rankIs(x, "a b", "0:833 1:500 2:333 3:333");
        Due.line(x, 1, "b b b");
        rankIs(x, "b", "0:500 1:500");
        Due.rules(x, "fold b to a;stop a;");
        rankIs(x, "a b", "0:250 1:250 2:250 3:250");
        for (int n : new int[] {1, 2, 3, 6, 7, 30, 39, 40}) {
            x = new WordPlaces();
            for (int i = 0; i < 40; i++) {
                Due.line(x, 0, i < n ? "a a" : "b");
            }
            Due.put(x, "a").rank(0);
            s.is("in " + n + " LINES, the first", x.ranked(0, 1), 1000 / n);
            s.is("in " + n + " LINES, the last", x.ranked(n - 1, 1), 1000 / n);
        }
        x = Sentences.full();
        StringBuilder tape = new StringBuilder();
        for (int i = 0; i < 15; i++) {
            tape.append(Sentences.unlike(2 * (15 * 19 + i))).append(' ');
        }
        rankIs(x, tape.toString(), "19:15000");
    }

    private void greatestFirst() {
        s.of("VI", "By worth, the greatest first, then by number; those of 0 are left out.");
        WordPlaces x = Due.book("a", "b b", "", "c", "a d", "d", "e c");
        rankIs(x, "a b d", "1:1000 4:1000 0:500 5:500");
        rankIs(x, "e a", "6:1000 0:500 4:500");
        rankIs(x, "c", "3:500 6:500");
        rankIs(x, "zz", "");
        rankIs(x, "", "");
        rankIs(new WordPlaces(), "a", "");
        x = new WordPlaces();
        StringBuilder all = new StringBuilder();
        for (int i = 0; i < 40; i++) {
            Due.line(x, 0, "a");
            all.append(i > 0 ? " " : "").append(i).append(":25");
        }
        rankIs(x, "a", all.toString());
        Due.put(x, "a b").right(0, 39);
        rankIs(x, "a b", "39:1025 " + all.substring(0, all.length() - 6));
    }

    private void tapeOfWords() {
        s.of("Promise 26", "The TAPE (empty then) is WORDS, others part them: LINES of an EDITION that have a worth by them (VI).");
        WordPlaces x = Due.book("a", "b");
        Due.line(x, 1, "ab");
        for (int b = 0; b < 256; b++) {
            boolean letter = b >= 'a' && b <= 'z';
            Due.put(x, "a" + (char) b + "b");
            s.is("rank(0) of a, byte " + b + ", b", x.rank(0), letter ? 0 : 2);
            s.is("the TAPE is empty", x.count(5), 0);
            if (b % 16 == 15) {
                // An object is used for 512 calls.
                x = Due.book("a", "b");
            }
        }
        x = Due.book(TWENTY + "u", "b");
        Due.line(x, 1, "b b");
        s.is("a WORD of 22 letters", Due.put(x, TWENTY + "xy").rank(0), 1);
        s.is("one of 19", Due.put(x, TWENTY.substring(0, 19)).rank(0), 0);
        s.is("400 letters", Due.put(x, Due.times("b", 400)).rank(0), 0);
        s.is("200 WORDS", Due.put(x, Due.times("b ", 200)).rank(0), 1);
        s.is("in EDITION 1", Due.put(x, "b").rank(1), 1);
        s.is("its LINE's worth", x.ranked(0, 1), 1000);
        s.is("no WORDS", Due.put(x, " .,A5").rank(1), 0);
        s.is("one in the last byte", Due.put(x, Due.times(".", 399) + "b").rank(1), 1);
        x = Sentences.full();
        s.is("the first FORM of 600", Due.put(x, Sentences.unlike(0)).rank(0), 1);
        s.is("the last FORM of 600", Due.put(x, Sentences.unlike(599)).rank(1), 1);
        s.is("its LINE", x.ranked(0, 0), 19);
    }

    private void rankOfNone() {
        s.of("Promise 26", "-2 (the TAPE stays): there is none such.");
        WordPlaces x = Due.book("a");
        Due.put(x, "a");
        for (int e : Sentences.beyond(2)) {
            s.is("rank(" + e + ")", x.rank(e), -2);
            s.is("the TAPE stays", x.count(5), 1);
        }
        s.is("rank(0) of it", x.rank(0), 1);
    }

    private void rankedLines() {
        s.of("Promise 27", "Of the i-th LINE by the latest rank(), what 0: its number, 1: its worth.");
        WordPlaces x = Due.book("", "a", "b");
        Due.put(x, "b").rank(0);
        s.is("ranked(0, 0)", x.ranked(0, 0), 2);
        s.is("ranked(0, 1)", x.ranked(0, 1), 1000);
        Due.put(x, "a").rank(0);
        s.is("the latest ranked(0, 0)", x.ranked(0, 0), 1);
        Due.put(x, "zz").rank(1);
        s.is("the latest has none", x.ranked(0, 0), NOTHING);
        s.of("Promise 27", "NOTHING for others.");
        for (int n : new int[] {0, 1, 2}) {
            Due.put(x, n == 0 ? "" : n == 1 ? "a" : "a b").rank(0);
            for (int i : Sentences.beyond(n)) {
                s.is("ranked(" + i + ", 0) of " + n, x.ranked(i, 0), NOTHING);
                s.is("ranked(" + i + ", 1) of " + n, x.ranked(i, 1), NOTHING);
            }
            for (int what : Sentences.beyond(2)) {
                s.is("ranked(0, " + what + ") of " + n, x.ranked(0, what), NOTHING);
            }
        }
        s.is("ahead of any", new WordPlaces().ranked(0, 0), NOTHING);
        x = new WordPlaces();
        for (int i = 0; i < 40; i++) {
            Due.line(x, 0, "a");
        }
        Due.put(x, "a").rank(0);
        s.is("ranked(39, 0)", x.ranked(39, 0), 39);
        s.is("ranked(40, 0)", x.ranked(40, 0), NOTHING);
    }

    // Promises 28 and 29.

    private static String begun(WordPlaces x) {
        StringBuilder text = new StringBuilder();
        for (int i = 0; i < 20 && x.begun(i) >= 0; i++) {
            text.append(i > 0 ? " " : "").append(x.begun(i));
        }
        return text.toString();
    }

    private void beginsIs(WordPlaces x, String tape, String want) {
        s.is("begins of " + tape, Due.put(x, tape).begins(), want.isEmpty() ? 0 : want.split(" ").length);
        s.are("begun by " + tape, begun(x), want);
        s.is("the TAPE is empty", x.count(5), 0);
    }

    private void formsBegun() {
        s.of("Promise 28", "The TAPE (empty then) begins FORMS: how many;");
        WordPlaces x = Due.book("a ab b");
        Due.line(x, 1, "abc aa z");
        beginsIs(x, "", "0 1 2 3 4 5");
        beginsIs(x, "a", "0 1 2 3");
        beginsIs(x, "ab", "2 3");
        beginsIs(x, "abc", "3");
        beginsIs(x, "abcd", "");
        beginsIs(x, "ac", "");
        beginsIs(x, "z", "5");
        beginsIs(x, "y", "");
        beginsIs(x, "zz", "");
        beginsIs(new WordPlaces(), "", "");
        beginsIs(new WordPlaces(), "a", "");
        for (int size = 1; size <= 20; size++) {
            String part = TWENTY.substring(0, size);
            x = Due.book(TWENTY + "uv", part.substring(0, size - 1) + "z");
            beginsIs(x, part, "0");
            beginsIs(x, part.substring(0, size - 1), "0 1");
        }
        beginsIs(x, TWENTY + "u", "");
        beginsIs(x, TWENTY + "   u", "");
        beginsIs(x, TWENTY + "u" + Due.times(".", 300), "");
        beginsIs(x, TWENTY + Due.times(".", 300), "0");
        beginsIs(x, Due.times("a", 400), "");
        x = Sentences.full();
        s.is("all 600", x.begins(), 600);
        s.is("the last of them", x.begun(599), 599);
        s.is("the second letter's last", Due.put(x, "ax").begins(), 2);
    }

    private void lettersFolded() {
        s.of("Promise 28", "its letters are folded, others left out.");
        WordPlaces x = Due.book("ua va ub " + TWENTY);
        Due.rules(x, "fold v to u;stop ua;order z;");
        beginsIs(x, "v", "1 2");
        beginsIs(x, "u", "1 2");
        beginsIs(x, "va", "1");
        beginsIs(x, " v-5A'b ", "2");
        beginsIs(x, "A-5", "0 1 2");
        beginsIs(x, TWENTY.substring(0, 19) + Due.times(".", 300) + "t", "0");
        beginsIs(x, "`{b", "");
        beginsIs(x, Due.times(".", 399) + "b", "");
        beginsIs(x, Due.times(".", 399) + "u", "1 2");
        beginsIs(x, TWENTY + Due.times(".", 380), "0");
        beginsIs(x, TWENTY + Due.times(".", 379) + "u", "");
        for (int b = 0; b < 256; b++) {
            boolean letter = b >= 'a' && b <= 'z';
            WordPlaces y = Due.book("abc");
            s.is("begins of a, byte " + b + ", b", Due.put(y, "a" + (char) b + "b").begins(), letter ? 0 : 1);
        }
    }

    private void begunForms() {
        s.of("Promise 29", "The i-th FORM of the latest begins() (by number);");
        WordPlaces x = Due.book("c b a bb");
        Due.rules(x, "order cb;");
        beginsIs(x, "b", "1 2");
        beginsIs(x, "c", "3");
        beginsIs(x, "zz", "");
        beginsIs(x, "", "0 1 2 3");
        s.of("Promise 29", "NONE.");
        s.is("ahead of any", new WordPlaces().begun(0), -1);
        for (int n : new int[] {0, 1, 2, 4}) {
            Due.put(x, n == 0 ? "zz" : n == 1 ? "c" : n == 2 ? "b" : "").begins();
            for (int i : Sentences.beyond(n)) {
                s.is("begun(" + i + ") of " + n, x.begun(i), -1);
            }
        }
        x = Sentences.full();
        x.begins();
        for (int i : Sentences.beyond(600)) {
            s.is("begun(" + i + ") of 600", x.begun(i), -1);
        }
    }

    // TERMS, VII; promises 30 and 31.

    private static String printed(WordPlaces x) {
        StringBuilder text = new StringBuilder();
        for (int f = 0; f < x.forms(); f++) {
            text.append(f > 0 ? " " : "").append(x.page(f));
        }
        return text.toString();
    }

    private void printIs(WordPlaces x, int n, int pages, String want) {
        s.is("print(0, " + n + ")", x.print(0, n), pages);
        s.are("PAGES of " + n, printed(x), want);
    }

    private void pagesByOrder() {
        s.of("VII", "PAGES: FORMS of the EDITION by the ORDER, STOPS left out;");
        WordPlaces x = Due.book("a b c d e");
        Due.line(x, 1, "f a");
        printIs(x, 5, 3, "0 0 1 1 2 -1");
        s.is("print(1, 5)", x.print(1, 5), 1);
        s.are("PAGES of EDITION 1", printed(x), "0 -1 -1 -1 -1 0");
        Due.rules(x, "order edcba;");
        printIs(x, 5, 3, "2 1 1 0 0 -1");
        Due.rules(x, "stop b;stop d;");
        printIs(x, 5, 2, "0 -1 0 -1 1 -1");
        Due.rules(x, "stop a;stop b;stop c;stop d;stop e;");
        printIs(x, 5, 0, "-1 -1 -1 -1 -1 -1");
        s.is("f alone", x.print(1, 5), 1);
    }

    private void rowsOfForms() {
        s.of("VII", "each takes a row, and one for each six PLACES begun.");
        for (int often = 1; often <= 30; often++) {
            int rows = 1 + (often + 5) / 6;
            // With what stands ahead it fills a PAGE to its last row, or is one beyond.
            for (int more = 0; more <= 1; more++) {
                int ahead = 8 - rows + more;
                WordPlaces x = new WordPlaces();
                if (ahead >= 2) {
                    Sentences.addLetters(x, 0, Due.times("a", 6 * (ahead - 1)));
                }
                Sentences.addLetters(x, 0, Due.times("b", often));
                s.is(often + " PLACES behind " + ahead + " rows", x.print(0, 8), ahead >= 2 ? 1 + more : 1);
            }
        }
        WordPlaces x = Sentences.ofLetters(Due.times("a", 300));
        s.is("51 rows", x.print(0, 51), 1);
        s.is("51 rows on PAGES of 50", x.print(0, 50), 2);
        s.is("51 rows on PAGES of 17", x.print(0, 17), 3);
        s.is("51 rows on PAGES of 5", x.print(0, 5), 11);
    }

    private void nextPage() {
        s.of("VII", "A FORM that does not fit on what is left of a PAGE begins the next one, unless nothing stands there;");
        WordPlaces x = Due.book("a b b b b b b b c d");
        printIs(x, 5, 2, "0 0 1 1");
        printIs(x, 6, 2, "0 0 1 1");
        printIs(x, 7, 2, "0 0 0 1");
        printIs(x, 8, 2, "0 0 0 1");
        printIs(x, 9, 1, "0 0 0 0");
        x = Due.book("a a a a a a a b b b b b b b c");
        printIs(x, 5, 2, "0 1 1");
        x = Sentences.ofLetters(Due.times("a", 24) + Due.times("b", 24) + "c");
        printIs(x, 5, 3, "0 1 2");
        x = Sentences.ofLetters(Due.times("a", 25) + "b");
        printIs(x, 5, 2, "0 1");
        printIs(x, 6, 2, "0 1");
    }

    private void longerThanPage() {
        s.of("VII", "one longer than a PAGE goes on over as many as it needs, and the next FORM goes on behind it.");
        WordPlaces x = Sentences.ofLetters(Due.times("a", 30) + "bcd");
        printIs(x, 5, 3, "0 1 1 2");
        x = Sentences.ofLetters("a" + Due.times("b", 30) + "cd");
        printIs(x, 5, 3, "0 1 2 2");
        x = Sentences.ofLetters(Due.times("a", 54) + "bc");
        printIs(x, 5, 3, "0 2 2");
        x = Sentences.ofLetters(Due.times("a", 48) + "bc");
        printIs(x, 5, 3, "0 2 2");
        x = Sentences.ofLetters(Due.times("a", 60) + Due.times("b", 24));
        printIs(x, 5, 4, "0 3");
        printIs(x, 8, 2, "0 1");
        printIs(x, 11, 2, "0 1");
        printIs(x, 16, 1, "0 0");
        x = Sentences.ofLetters(Due.times("a", 150) + Due.times("b", 150));
        printIs(x, 5, 12, "0 6");
        printIs(x, 25, 4, "0 2");
        printIs(x, 26, 2, "0 1");
        printIs(x, 52, 1, "0 0");
    }

    private void pagesOfRows() {
        s.of("Promise 30", "PAGES (VII) of n rows (5 .. 100) for an EDITION: how many.");
        WordPlaces x = Sentences.full();
        for (int n : new int[] {5, 6, 7, 99, 100}) {
            s.is("print(0, " + n + ")", x.print(0, n), (300 + n / 2 - 1) / (n / 2));
            s.is("print(1, " + n + ")", x.print(1, n), (300 + n / 2 - 1) / (n / 2));
            s.is("the last FORM's", x.page(599), 299 / (n / 2));
        }
        s.is("no FORMS", new WordPlaces().print(0, 100), 0);
        s.is("no WORDS", Due.book("").print(0, 5), 0);
        s.is("of the other EDITION", Due.book("a").print(1, 5), 0);
        s.of("Promise 30", "-2: there is none such, another n.");
        for (int n : new int[] {Integer.MIN_VALUE, -5, -1, 0, 1, 4, 101, 102, 105, 261, Integer.MAX_VALUE}) {
            s.is("print(0, " + n + ")", x.print(0, n), -2);
        }
        for (int e : Sentences.beyond(2)) {
            s.is("print(" + e + ", 5)", x.print(e, 5), -2);
        }
    }

    private void pageOfForms() {
        s.of("Promise 31", "The PAGE on which a FORM begins by the latest print() that told a number;");
        WordPlaces x = Due.book("a b c");
        Due.line(x, 1, "c");
        printIs(x, 5, 2, "0 0 1");
        for (int n : new int[] {0, 4, 101}) {
            x.print(0, n);
            s.are("behind print(0, " + n + ")", printed(x), "0 0 1");
        }
        x.print(2, 6);
        s.are("behind print(2, 6)", printed(x), "0 0 1");
        Due.rules(x, "order c;stop a;");
        s.are("behind rules()", printed(x), "0 0 1");
        Due.put(x, "a b c c").right(0, 0);
        s.are("behind right()", printed(x), "0 0 1");
        x.print(1, 5);
        s.are("the latest", printed(x), "-1 -1 0");
        s.of("Promise 31", "NONE: it is not printed.");
        s.is("a STOP", x.page(0), -1);
        s.is("a FORM of the other EDITION", x.page(1), -1);
        for (int f : Sentences.beyond(3)) {
            s.is("page(" + f + ")", x.page(f), -1);
            s.is("ahead of any", new WordPlaces().page(f), -1);
        }
        x = Sentences.full();
        x.print(1, 100);
        s.is("page(599)", x.page(599), 5);
        s.is("page(598)", x.page(598), -1);
        for (int f : Sentences.beyond(600)) {
            s.is("of 600, page(" + f + ")", x.page(f), -1);
        }
        Due.book("").print(0, 5);
        x = Due.book("a");
        x.print(0, 5);
        x.print(1, 5);
        s.is("a print() that told 0", x.page(0), -1);
    }
}
