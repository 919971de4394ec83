/** Boundary cases of counts, IMAGES and SLOTS (TERMS SLOTS, promises 32 to 37), sentence by sentence. */
final class SlotBoundaries {
    private static final int NOTHING = -2000000000;
    private static final String SIXTY = "abcdefghijklmnopqrs tuvwxyzabcdefghijkl mnopqrstuvwxyzabcdef";

    private final Sentences s;

    SlotBoundaries(Sentences s) {
        this.s = s;
    }

    void all() {
        fourSlots();
        bytesOfWidths();
        sixtyNumbers();
        countsTold();
        countOfNothing();
        imageKeeps();
        imageOfNone();
        asImageHasThem();
        imagesApart();
        whatNoImageKeeps();
        backOfNone();
        allZero();
        rowInPlace();
        rowOfNone();
        rowBelowZero();
        numberCut();
        writeOfNone();
        asTheyWere();
        ownRow();
        pasteOfNone();
        pasteOfOtherWidths();
        pasteBeyond();
    }

    private static void writeAll(WordPlaces x, int slot, String text) {
        for (int i = 0; i < text.length(); i++) {
            x.write(slot, i, text.charAt(i));
        }
    }

    /** An object whose SLOT has these bytes. */
    private static WordPlaces rowOf(int slot, String text) {
        WordPlaces x = new WordPlaces();
        x.row(slot, 0, text.length());
        writeAll(x, slot, text);
        return x;
    }

    /** What a SLOT has, if that may be a LINE, else "-4"; what the object has else stays. */
    private static String textOf(WordPlaces x, int slot) {
        StringBuilder text = new StringBuilder();
        x.keep(2);
        int line = x.lineOf(1, slot);
        for (int p = 0; line >= 0 && p < x.edition(1, 1); p++) {
            text.append(p > 0 ? " " : "").append(Due.letters(x, x.word(1, p, 0)));
        }
        x.back(2);
        return line < 0 ? "" + line : text.toString();
    }

    // TERMS, SLOTS.

    private void fourSlots() {
        s.of("SLOTS", "SLOTS 0 .. 3 have rows of numbers");
        WordPlaces x = new WordPlaces();
        for (int slot = 0; slot < 4; slot++) {
            s.is("row(" + slot + ", 0, 2)", x.row(slot, 0, 2), 0);
            writeAll(x, slot, "b" + (char) ('a' + slot));
            s.is("count(7)", x.count(7), slot + 1);
        }
        for (int slot = 0; slot < 4; slot++) {
            s.are("SLOT " + slot, textOf(x, slot), "b" + (char) ('a' + slot));
        }
        for (int slot : Sentences.beyond(4)) {
            s.is("row(" + slot + ", 0, 1)", x.row(slot, 0, 1), -2);
            s.is("write(" + slot + ", 0, 1)", x.write(slot, 0, 1), -2);
            s.is("lineOf(1, " + slot + ")", x.lineOf(1, slot), -2);
            s.is("paste(" + slot + ", 0, 0, 0, 0)", x.paste(slot, 0, 0, 0, 0), -2);
            s.is("paste(0, 0, " + slot + ", 0, 0)", x.paste(0, 0, slot, 0, 0), -2);
        }
    }

    private void bytesOfWidths() {
        s.of("SLOTS", "of 1, 2, 4 or 8 bytes (WIDTH 0 .. 3)");
        WordPlaces x = new WordPlaces();
        for (int width = 0; width < 4; width++) {
            s.is("row(0, " + width + ", 2)", x.row(0, width, 2), 0);
            s.is("a number of WIDTH " + width, x.write(0, 1, Long.MAX_VALUE), 0);
            s.is("lineOf of WIDTH " + width, x.lineOf(0, 0), width == 0 ? -4 : -8);
            for (int other = 0; other < 4; other++) {
                x.row(1, other, 2);
                s.is("paste of WIDTH " + width + " to " + other, x.paste(0, 0, 1, 0, 2), width == other ? 0 : -8);
            }
        }
        for (int width : Sentences.beyond(4)) {
            s.is("row(0, " + width + ", 2)", x.row(0, width, 2), -2);
        }
    }

    private void sixtyNumbers() {
        s.of("SLOTS", "at most 60, or nothing.");
        for (int n = 0; n <= 60; n++) {
            WordPlaces x = rowOf(3, SIXTY.substring(0, n));
            s.is("write(3, " + n + ", 97) of " + n, x.write(3, n, 97), -7);
            s.are("a row of " + n, textOf(x, 3), SIXTY.substring(0, n).trim());
            s.is("count(7)", x.count(7), 1);
        }
        WordPlaces x = new WordPlaces();
        for (int slot = 0; slot < 4; slot++) {
            s.is("row(" + slot + ", 0, 61)", x.row(slot, 0, 61), -2);
            s.is("write(" + slot + ", 0, 0) of nothing", x.write(slot, 0, 0), -6);
        }
        s.is("count(7)", x.count(7), 0);
    }

    // Promises 32 to 34.

    private void countsTold() {
        s.of("Promise 32", "0 LINES of both, 1 WORDS of both, 2 RULES, 3 STOPS, 4 ROOTS, 5 bytes of the TAPE, 6 SLIPS, 7 SLOTS that"
            + " have a row, 8 letters that are folded.");
        WordPlaces x = new WordPlaces();
        countsAre(x, "0 0 0 0 0 0 0 0 0");
        Due.line(x, 0, "a b-");
        countsAre(x, "1 2 0 0 0 0 0 0 0");
        Due.line(x, 0, "c");
        Due.line(x, 1, "d e f");
        countsAre(x, "3 5 0 0 0 0 0 0 0");
        Due.rules(x, "stop a;fold b to c;root a of b;order a;stop c;fold c to b;fold d to a;root b of a;root c of a;stop d;stop e;");
        countsAre(x, "3 5 11 4 3 0 0 0 3");
        Due.slip(x, 0, 0, "a");
        Due.slip(x, 0, 0, "b");
        Due.slip(x, 3, 1, "b");
        countsAre(x, "3 5 11 4 3 0 2 0 3");
        x.row(2, 3, 0);
        x.row(0, 0, 9);
        x.row(0, 1, 9);
        Due.put(x, "abc");
        countsAre(x, "3 5 11 4 3 3 2 2 3");
        x.end(0);
        Due.put(x, "").right(0, 0);
        countsAre(x, "3 4 11 4 3 0 2 2 3");
        x.rules();
        countsAre(x, "3 4 0 0 0 0 2 2 0");
        x = Sentences.ofLetters(Due.times("a", 300));
        Sentences.addLetters(x, 1, Due.times("a", 300));
        s.is("WORDS of both", x.count(1), 600);
        for (int i = 0; i < 20; i++) {
            x.feed(0, 0, 0, 0, 0);
        }
        s.is("bytes of the TAPE", x.count(5), 400);
    }

    private void countsAre(WordPlaces x, String want) {
        StringBuilder text = new StringBuilder();
        for (int what = 0; what <= 8; what++) {
            text.append(what > 0 ? " " : "").append(x.count(what));
        }
        s.are("count(0 .. 8)", text.toString(), want);
    }

    private void countOfNothing() {
        s.of("Promise 32", "NONE for others.");
        WordPlaces x = Due.book("a");
        for (int what : Sentences.beyond(9)) {
            s.is("count(" + what + ")", x.count(what), -1);
        }
    }

    /** LINES of both EDITIONS, all kinds of RULES, and two SLIPS. */
    private static WordPlaces rich() {
        WordPlaces x = Due.book("a b-", "c d");
        Due.line(x, 1, "v e");
        Due.rules(x, "fold v to u;stop a;root d of e;order edu;");
        Due.slip(x, 0, 0, "v");
        Due.slip(x, 3, 2, "d");
        return x;
    }

    private void richIs(WordPlaces x) {
        countsAre(x, "3 5 4 1 1 0 2 0 1");
        s.are("FORMS by the ORDER", Due.allOrdered(x), "e d u a bc");
        s.is("a is a STOP", x.form(0, 3), 1);
        s.is("the ROOT of e", x.form(3, 4), 0);
        s.is("a WORD that is CUT", x.word(0, 1, 3), 1);
        s.is("the last LINE of EDITION 0", x.word(0, 2, 1), 1);
        s.is("edition(1, 1)", x.edition(1, 1), 2);
        s.is("SLIPS of hand 0", x.hand(0, 0), 1);
        s.is("a wrong one", x.hand(0, 1), 1);
        s.is("SLIPS of hand 3", x.hand(3, 0), 1);
        s.is("a right one", x.hand(3, 1), 0);
        s.is("hand 1 has none", x.hand(1, 0), 0);
    }

    private static void change(WordPlaces x) {
        Due.rules(x, "stop e;root a of b;root b of a;fold u to v;fold e to a;");
        Due.put(x, "x y z").right(0, 0);
        Due.put(x, "q").right(0, 1);
        Due.put(x, "").right(1, 0);
        Due.line(x, 1, "w");
        Due.line(x, 0, "w");
        Due.slip(x, 0, 0, "a");
        Due.slip(x, 1, 1, "a");
        Due.slip(x, 3, 2, "a");
    }

    private void imageKeeps() {
        s.of("Promise 33", "IMAGE k (0 .. 2) keeps RULES, LINES and SLIPS: 0.");
        for (int k = 0; k < 3; k++) {
            WordPlaces x = rich();
            s.is("keep(" + k + ")", x.keep(k), 0);
            richIs(x);
            change(x);
            s.is("back(" + k + ")", x.back(k), 0);
            richIs(x);
        }
        WordPlaces x = new WordPlaces();
        s.is("keep of nothing", x.keep(0), 0);
        change(x);
        Due.line(x, 0, "a");
        Due.slip(x, 0, 0, "a");
        s.is("back to nothing", x.back(0), 0);
        countsAre(x, "0 0 0 0 0 0 0 0 0");
        s.is("no LINE", x.right(0, 0), -2);
        s.is("LINE 0 again", Due.line(x, 0, "b"), 0);
    }

    private void imageOfNone() {
        s.of("Promise 33", "-2: no such k.");
        WordPlaces x = new WordPlaces();
        for (int k : Sentences.beyond(3)) {
            s.is("keep(" + k + ")", x.keep(k), -2);
        }
        for (int k = 0; k < 3; k++) {
            s.is("nothing is kept", x.back(k), -6);
        }
    }

    private void asImageHasThem() {
        s.of("Promise 34", "These are as IMAGE k has them: 0.");
        WordPlaces x = rich();
        x.keep(1);
        for (int turn = 0; turn < 3; turn++) {
            change(x);
            s.is("back(1)", x.back(1), 0);
            richIs(x);
        }
        change(x);
        x.keep(1);
        s.is("back to what was kept later", x.back(1), 0);
        s.is("its WORDS", x.count(1), 6);
        Due.put(x, "w").right(1, 0);
        x.back(1);
        s.is("its LINE", x.edition(1, 1), 1);
        x = Sentences.ofLetters(Due.times("a", 300));
        Due.slip(x, 3, 299, "b");
        for (int i = 10; i < 40; i++) {
            Due.line(x, 0, "");
        }
        x.keep(0);
        for (int i = 0; i < 40; i++) {
            x.right(0, i);
        }
        Due.slip(x, 3, 0, "b");
        x.back(0);
        s.is("300 WORDS", x.edition(0, 1), 300);
        s.is("the last SLIP", x.hand(3, 1), 1);
        s.is("a 41st LINE", x.line(0), -3);
        x = new WordPlaces();
        for (int i = 0; i < 40; i++) {
            Due.line(x, 1, i == 39 ? "c d e" : "a b-");
        }
        s.is("WORDS of EDITION 1", x.edition(1, 1), 42);
        x.keep(2);
        for (int i = 0; i < 40; i++) {
            Due.put(x, "q").right(1, i);
        }
        s.is("WORDS of others", x.edition(1, 1), 40);
        x.back(2);
        s.is("its WORDS again", x.edition(1, 1), 42);
        s.is("one that is CUT", x.word(1, 1, 3), 1);
        s.is("the last one's LINE", x.word(1, 41, 1), 39);
        s.are("its letters", Due.letters(x, x.word(1, 41, 0)), "e");
    }

    private void imagesApart() {
        s.of("Promise 34", "These are as IMAGE k has them");
        WordPlaces x = new WordPlaces();
        for (int k = 0; k < 3; k++) {
            Due.line(x, 0, "" + (char) ('a' + k));
            x.keep(k);
        }
        for (int k : new int[] {0, 2, 1, 0, 1, 2}) {
            x.back(k);
            s.is("LINES of IMAGE " + k, x.edition(0, 0), k + 1);
            s.are("FORMS of IMAGE " + k, Due.allForms(x), "a b c".substring(0, 2 * k + 1));
        }
    }

    private void whatNoImageKeeps() {
        s.of("Promise 33", "keeps RULES, LINES and SLIPS");
        WordPlaces x = rowOf(0, "ab");
        Due.line(x, 0, "a b a");
        x.keep(0);
        x.write(0, 0, 'c');
        x.row(1, 0, 0);
        Due.ask(x, 0, "a");
        x.shares(0, 2);
        Due.put(x, "b").rank(0);
        Due.put(x, "b").begins();
        x.print(0, 5);
        Due.rules(x, "stop 5;");
        Due.put(x, "abc");
        x.back(0);
        s.is("the TAPE stays", x.count(5), 3);
        x.end(0);
        s.are("SLOTS stay", textOf(x, 0), "cb");
        s.is("count(7)", x.count(7), 2);
        s.is("the FAULT stays", x.fault(1), 5);
        s.are("answers stay", Due.answered(x), "0 2");
        s.is("SHARES stay", x.share(1), 0);
        s.is("ranked LINES stay", x.ranked(0, 1), 1000);
        s.is("begun FORMS stay", x.begun(0), 1);
        s.is("PAGES stay", x.page(1), 0);
    }

    private void backOfNone() {
        s.of("Promise 34", "-2: no such k; -6: it has nothing.");
        WordPlaces x = rich();
        for (int k : Sentences.beyond(3)) {
            s.is("back(" + k + ")", x.back(k), -2);
        }
        for (int k = 0; k < 3; k++) {
            s.is("back(" + k + ")", x.back(k), -6);
        }
        x.keep(1);
        s.is("back(0)", x.back(0), -6);
        s.is("back(2)", x.back(2), -6);
        richIs(x);
    }

    // Promises 35 to 37.

    private void allZero() {
        s.of("Promise 35", "A SLOT (0 .. 3) has a row of n numbers of a WIDTH, all 0");
        for (int zero = 0; zero < 5; zero++) {
            WordPlaces x = rowOf(1, "abcde");
            s.are("five letters", textOf(x, 1), "abcde");
            s.is("row(1, 0, 5)", x.row(1, 0, 5), 0);
            for (int i = 0; i < 5; i++) {
                if (i != zero) {
                    x.write(1, i, 'a');
                }
            }
            s.are("number " + zero + " is 0", textOf(x, 1), "-4");
            x.write(1, zero, 'a');
            s.are("now it is not", textOf(x, 1), "aaaaa");
        }
        WordPlaces x = rowOf(3, SIXTY);
        x.row(3, 0, 60);
        writeAll(x, 3, SIXTY.substring(0, 59));
        s.are("number 59 is 0", textOf(x, 3), "-4");
    }

    private void rowInPlace() {
        s.of("Promise 35", "(in place of another one): 0.");
        WordPlaces x = rowOf(2, "abc");
        s.is("a shorter one", x.row(2, 0, 1), 0);
        s.is("number 1", x.write(2, 1, 'b'), -7);
        s.is("a longer one", x.row(2, 0, 4), 0);
        writeAll(x, 2, "d");
        s.are("nothing is left of those ahead", textOf(x, 2), "-4");
        writeAll(x, 2, "defg");
        s.are("four", textOf(x, 2), "defg");
        s.is("another WIDTH", x.row(2, 1, 4), 0);
        s.are("which is no LINE", textOf(x, 2), "-8");
        s.is("none", x.row(2, 0, 0), 0);
        s.are("an empty LINE", textOf(x, 2), "");
        s.is("count(7)", x.count(7), 1);
    }

    private void rowOfNone() {
        s.of("Promise 35", "-2: there is no such SLOT or WIDTH (0 .. 3), or n is above 60;");
        WordPlaces x = rowOf(0, "ab");
        for (int slot : Sentences.beyond(4)) {
            s.is("row(" + slot + ", 0, 0)", x.row(slot, 0, 0), -2);
        }
        for (int width : Sentences.beyond(4)) {
            s.is("row(0, " + width + ", 0)", x.row(0, width, 0), -2);
        }
        for (int n : new int[] {61, 62, 256, 316, 65536, Integer.MAX_VALUE}) {
            s.is("row(0, 0, " + n + ")", x.row(0, 0, n), -2);
        }
        s.are("the row stays", textOf(x, 0), "ab");
        s.is("count(7)", x.count(7), 1);
    }

    private void rowBelowZero() {
        s.of("Promise 35", "-3, and the SLOT stays: n is below 0.");
        WordPlaces x = rowOf(0, "ab");
        for (int n : new int[] {-1, -2, -60, -256, Integer.MIN_VALUE}) {
            s.is("row(0, 0, " + n + ")", x.row(0, 0, n), -3);
            s.is("row(0, 3, " + n + ")", x.row(0, 3, n), -3);
            s.is("row(1, 0, " + n + ")", x.row(1, 0, n), -3);
        }
        s.are("the row stays", textOf(x, 0), "ab");
        s.is("the other has nothing", x.write(1, 0, 0), -6);
        s.is("count(7)", x.count(7), 1);
    }

    private void numberCut() {
        s.of("Promise 36", "Number i of the SLOT's row is v, cut to its WIDTH: 0.");
        long[] alike = {'b', 'b' + 256L, 'b' - 256L, 'b' + 65536L, 'b' + (1L << 32), 'b' - (1L << 32), Long.MIN_VALUE + 'b',
            Long.MAX_VALUE - 255 + 'b'};
        WordPlaces x = rowOf(0, "aaa");
        for (long v : alike) {
            for (int i = 0; i < 3; i++) {
                s.is("write(0, " + i + ", " + v + ")", x.write(0, i, v), 0);
                s.are("cut to a byte", textOf(x, 0), "aaa".substring(0, i) + "b" + "aa".substring(i));
                x.write(0, i, 'a');
            }
        }
        for (long v : new long[] {0, -1, 255, 256, 'b' + 128L, 'b' << 8, Long.MIN_VALUE, Long.MAX_VALUE}) {
            s.is("write(0, 1, " + v + ")", x.write(0, 1, v), 0);
            s.are("no letter", textOf(x, 0), "-4");
        }
        for (int width = 1; width < 4; width++) {
            x.row(0, width, 60);
            s.is("write of WIDTH " + width, x.write(0, 59, Long.MIN_VALUE), 0);
        }
    }

    private void writeOfNone() {
        s.of("Promise 36", "-2: there is no such SLOT; -6: it has nothing; -7: there is no such number.");
        WordPlaces x = rowOf(1, "abc");
        for (int slot : Sentences.beyond(4)) {
            s.is("write(" + slot + ", 0, 97)", x.write(slot, 0, 97), -2);
        }
        for (int slot : new int[] {0, 2, 3}) {
            s.is("write(" + slot + ", 0, 97)", x.write(slot, 0, 97), -6);
        }
        for (int i : Sentences.beyond(3)) {
            s.is("write(1, " + i + ", 97)", x.write(1, i, 97), -7);
        }
        s.are("the row stays", textOf(x, 1), "abc");
        x.row(3, 0, 0);
        s.is("write to a row of none", x.write(3, 0, 97), -7);
        x.row(3, 3, 60);
        s.is("write(3, 60, 97)", x.write(3, 60, 97), -7);
    }

    private static WordPlaces twoRows(String first, String second) {
        WordPlaces x = rowOf(0, first);
        x.row(3, 0, second.length());
        writeAll(x, 3, second);
        return x;
    }

    private void pasted(int i, int k, int n, String want) {
        WordPlaces x = twoRows("abcdef", "uvwxyz");
        s.is("paste(0, " + i + ", 3, " + k + ", " + n + ")", x.paste(0, i, 3, k, n), 0);
        s.are("the other row", textOf(x, 3), want);
        s.are("the row itself", textOf(x, 0), "abcdef");
    }

    private void asTheyWere() {
        s.of("Promise 37", "So many numbers of a SLOT's row, from one on, are put to another one's (or its own), from one on, as they"
            + " were: 0.");
        pasted(0, 0, 6, "abcdef");
        pasted(0, 0, 1, "avwxyz");
        pasted(5, 5, 1, "uvwxyf");
        pasted(0, 5, 1, "uvwxya");
        pasted(5, 0, 1, "fvwxyz");
        pasted(1, 2, 3, "uvbcdz");
        pasted(0, 0, 0, "uvwxyz");
        pasted(6, 6, 0, "uvwxyz");
        pasted(3, 1, 0, "uvwxyz");
        WordPlaces x = twoRows(SIXTY, "zz");
        s.is("back from the shorter one", x.paste(3, 0, 0, 58, 2), 0);
        s.are("the last two", textOf(x, 0), SIXTY.substring(0, 58) + "zz");
        x.row(1, 0, 60);
        s.is("all 60", x.paste(0, 0, 1, 0, 60), 0);
        s.are("all 60", textOf(x, 1), SIXTY.substring(0, 58) + "zz");
        x.row(1, 3, 2);
        x.row(2, 3, 2);
        s.is("of WIDTH 3", x.paste(1, 0, 2, 0, 2), 0);
    }

    private void ownRow() {
        s.of("Promise 37", "(or its own), from one on, as they were");
        String row = "abcdefg";
        for (int i = 0; i <= 7; i++) {
            for (int k = 0; k <= 7; k++) {
                int n = 7 - Math.max(i, k);
                WordPlaces x = rowOf(2, row);
                s.is("paste(2, " + i + ", 2, " + k + ", " + n + ")", x.paste(2, i, 2, k, n), 0);
                s.are("its own row", textOf(x, 2), row.substring(0, k) + row.substring(i, i + n) + row.substring(k + n));
            }
        }
    }

    private void pasteOfNone() {
        s.of("Promise 37", "-2: there is no such SLOT; -6: one has nothing;");
        WordPlaces x = rowOf(0, "ab");
        for (int slot : Sentences.beyond(4)) {
            s.is("paste(" + slot + ", 0, 0, 0, 0)", x.paste(slot, 0, 0, 0, 0), -2);
            s.is("paste(0, 0, " + slot + ", 0, 0)", x.paste(0, 0, slot, 0, 0), -2);
        }
        for (int slot = 1; slot < 4; slot++) {
            s.is("paste(" + slot + ", 0, 0, 0, 1)", x.paste(slot, 0, 0, 0, 1), -6);
            s.is("paste(0, 0, " + slot + ", 0, 1)", x.paste(0, 0, slot, 0, 1), -6);
            s.is("paste(" + slot + ", 0, " + slot + ", 0, 0)", x.paste(slot, 0, slot, 0, 0), -6);
        }
        s.are("the row stays", textOf(x, 0), "ab");
        s.is("count(7)", x.count(7), 1);
    }

    private void pasteOfOtherWidths() {
        s.of("Promise 37", "-8: they are not of one WIDTH;");
        WordPlaces x = rowOf(0, "ab");
        for (int width = 1; width < 4; width++) {
            x.row(1, width, 2);
            s.is("paste to WIDTH " + width, x.paste(0, 0, 1, 0, 2), -8);
            s.is("paste from WIDTH " + width, x.paste(1, 0, 0, 0, 2), -8);
            s.is("paste of none", x.paste(1, 0, 0, 0, 0), -8);
        }
        s.are("the row stays", textOf(x, 0), "ab");
        x.row(1, 0, 2);
        s.is("paste of one WIDTH", x.paste(0, 0, 1, 0, 2), 0);
    }

    private void pasteBeyond() {
        s.of("Promise 37", "-7, and nothing happens: some are beyond their rows (also where n is 0: a place above how many it has), or"
            + " a place or n is below 0.");
        int[][] refused = {{0, 0, 4}, {1, 0, 3}, {3, 0, 1}, {4, 0, 0}, {0, 3, 3}, {0, 5, 1}, {0, 6, 0}, {2, 3, 2}, {4, 6, 0},
            {-1, 0, 1}, {-1, 0, 0}, {0, -1, 1}, {0, -1, 0}, {0, 0, -1}, {1, 1, -1}, {3, 5, -3}, {-1, -1, -1}, {-1, 0, 2}, {1, -1, 2},
            {Integer.MAX_VALUE, 0, 1}, {0, Integer.MAX_VALUE, 1}, {0, 0, Integer.MAX_VALUE}, {1, 1, Integer.MAX_VALUE},
            {Integer.MAX_VALUE, Integer.MAX_VALUE, Integer.MAX_VALUE}, {Integer.MIN_VALUE, 0, 0}, {0, Integer.MIN_VALUE, 0},
            {0, 0, Integer.MIN_VALUE}, {Integer.MIN_VALUE, Integer.MIN_VALUE, Integer.MIN_VALUE}, {1, 0, Integer.MIN_VALUE},
            {Integer.MAX_VALUE, 0, 0}, {0, Integer.MAX_VALUE, 0}, {60, 0, 0}, {0, 60, 0}};
        for (int[] call : refused) {
            WordPlaces x = twoRows("abc", "vwxyz");
            String text = "(" + call[0] + ", " + call[1] + ", " + call[2] + ")";
            s.is("paste" + text, x.paste(0, call[0], 3, call[1], call[2]), -7);
            s.are("the row stays by " + text, textOf(x, 0), "abc");
            s.are("the other stays by " + text, textOf(x, 3), "vwxyz");
            s.is("paste to its own row" + text, x.paste(0, call[0], 0, call[1], call[2]), -7);
            s.are("it stays by " + text, textOf(x, 0), "abc");
        }
        WordPlaces x = twoRows("abc", "vwxyz");
        s.is("just within their rows", x.paste(0, 0, 3, 2, 3), 0);
        s.is("none at their ends", x.paste(0, 3, 3, 5, 0), 0);
        s.are("the other row", textOf(x, 3), "vwabc");
        x.row(0, 0, 0);
        s.is("none of none", x.paste(0, 0, 0, 0, 0), 0);
        s.is("one of none", x.paste(0, 0, 0, 0, 1), -7);
        s.is("none behind none", x.paste(0, 1, 0, 0, 0), -7);
        s.is("word(1, 0, 0)", x.word(1, 0, 0), NOTHING);
    }
}
