/** Boundary cases of LINES, WORDS and FORMS (TERMS I, promises 6 to 13), sentence by sentence. */
final class BookBoundaries {
    private static final int NOTHING = -2000000000;
    private static final String TWENTY = "abcdefghijklmnopqrst";

    private final Sentences s;

    BookBoundaries(Sentences s) {
        this.s = s;
    }

    void all() {
        twoEditions();
        fortyLines();
        sixtyBytes();
        signsOfLines();
        runsOfLetters();
        cutRuns();
        cutFurther();
        otherRuns();
        placesInOrder();
        firstTwentyLetters();
        numbersByLetters();
        madeAnew();
        lineNumbers();
        lineOfNoEdition();
        lineOfOtherBytes();
        linesBeyond();
        tapeEmptyThen();
        rightInPlace();
        rightOfNone();
        rightRefused();
        lineOfRow();
        lineOfNoSlot();
        lineOfLeavesTape();
        editionTold();
        wordTold();
        formsOfBoth();
        formTold();
        lettersTold();
        formOfNothing();
        orderedTold();
    }

    // TERMS, I.

    private void twoEditions() {
        s.of("I", "EDITIONS 0, 1:");
        WordPlaces x = Due.book("a b");
        x.row(0, 0, 0);
        for (int e : Sentences.beyond(2)) {
            s.is("line(" + e + ")", x.line(e), -2);
            s.is("right(" + e + ", 0)", x.right(e, 0), -2);
            s.is("lineOf(" + e + ", 0)", x.lineOf(e, 0), -2);
            s.is("edition(" + e + ", 0)", x.edition(e, 0), NOTHING);
            s.is("word(" + e + ", 0, 0)", x.word(e, 0, 0), NOTHING);
            s.is("ask(" + e + ")", x.ask(e), -2);
            s.is("stands(" + e + ", 0, 0)", x.stands(e, 0, 0), -1);
            s.is("pack(" + e + ", 0, 0)", x.pack(e, 0, 0), -2);
            s.is("room(" + e + ")", x.room(e), -2);
            s.is("shares(" + e + ", 1)", x.shares(e, 1), -2);
            s.is("rank(" + e + ")", x.rank(e), -2);
            s.is("print(" + e + ", 5)", x.print(e, 5), -2);
        }
        s.is("edition(0, 0)", x.edition(0, 0), 1);
        s.is("edition(1, 0)", x.edition(1, 0), 0);
        s.is("line of EDITION 1", Due.line(x, 1, "c"), 0);
        s.is("EDITION 0 stays", x.edition(0, 1), 2);
    }

    private void fortyLines() {
        s.of("I", "up to 40 LINES each (0 ..)");
        WordPlaces x = new WordPlaces();
        for (int i = 0; i < 40; i++) {
            s.is("LINE " + i + " of EDITION 0", Due.line(x, 0, "a"), i);
            s.is("LINE " + i + " of EDITION 1", Due.line(x, 1, "b c"), i);
        }
        s.is("a 41st", Due.line(x, 0, "a"), -3);
        s.is("a 41st", Due.line(x, 1, ""), -3);
        s.is("edition(0, 0)", x.edition(0, 0), 40);
        s.is("edition(1, 0)", x.edition(1, 0), 40);
        s.is("the last WORD's LINE", x.word(1, 79, 1), 39);
        s.is("right of LINE 39", Due.put(x, "d").right(1, 39), 79);
        s.is("right of LINE 40", x.right(1, 40), -2);
    }

    private void sixtyBytes() {
        s.of("I", "a LINE up to 60 bytes");
        for (int size : new int[] {0, 1, 2, 59, 60}) {
            WordPlaces x = new WordPlaces();
            s.is("line of " + size, Due.line(x, 0, Due.times("a", size)), 0);
            s.is("WORDS of " + size, x.edition(0, 1), Math.min(1, size));
            s.is("line of " + size + " blanks", Due.line(x, 0, Due.times(" ", size)), 1);
        }
        for (int size : new int[] {61, 62, 120, 399, 400}) {
            WordPlaces x = new WordPlaces();
            s.is("line of " + size, Due.line(x, 0, Due.times("a", size)), -4);
            s.is("line of " + size + " blanks", Due.line(x, 0, Due.times(" ", size)), -4);
            s.is("LINES", x.edition(0, 0), 0);
        }
    }

    private void signsOfLines() {
        s.of("I", "letters (a .. z), blanks (32), - (45).");
        for (int b = 0; b < 256; b++) {
            WordPlaces x = new WordPlaces();
            boolean letter = b >= 'a' && b <= 'z';
            boolean good = letter || b == 32 || b == 45;
            s.is("line of byte " + b, Due.line(x, 0, "" + (char) b), good ? 0 : -4);
            s.is("WORDS of byte " + b, x.edition(0, 1), letter ? 1 : 0);
            s.is("byte " + b + " behind 59", Due.line(x, 1, Due.times("a", 59) + (char) b), good ? 0 : -4);
        }
    }

    private void formsAre(String want, String... lines) {
        WordPlaces x = Due.book(lines);
        StringBuilder text = new StringBuilder();
        for (int p = 0; p < x.edition(0, 1); p++) {
            text.append(p > 0 ? " " : "").append(Due.letters(x, x.word(0, p, 0)));
        }
        s.are("WORDS of " + String.join("/", lines), text.toString(), want);
        s.is("edition(0, 1)", x.edition(0, 1), want.isEmpty() ? 0 : want.split(" ").length);
    }

    private void runsOfLetters() {
        s.of("I", "A RUN is as many letters as stand one behind the other; all else parts.");
        formsAre("");
        formsAre("", "");
        formsAre("", " ");
        formsAre("", " - -");
        formsAre("a", "a");
        formsAre("ab", "ab");
        formsAre("a b", "a b");
        formsAre("a b", "a-b");
        formsAre("a b", "-a--  b ");
        formsAre("a b", "a", "b");
        formsAre("az za", " az- za");
        formsAre(Due.times("a ", 30).trim(), Due.times("a ", 30));
        formsAre(Due.times("a ", 30).trim(), Due.times("-a", 30));
        formsAre("a b", Due.times(" ", 59) + "a", "b");
        formsAre(Due.times("a ", 30).trim() + " b", Due.times("-a", 30), "b-");
        WordPlaces x = Due.book("abc d", "b");
        Due.put(x, "a").right(0, 0);
        s.are("of a LINE that was longer", Due.allForms(x), "a b");
    }

    private void cutIs(String forms, String cut, String... lines) {
        formsAre(forms, lines);
        WordPlaces x = Due.book(lines);
        StringBuilder text = new StringBuilder();
        for (int p = 0; p < x.edition(0, 1); p++) {
            text.append(x.word(0, p, 3));
        }
        s.are("CUT ones of " + String.join("/", lines), text.toString(), cut);
        WordPlaces y = Due.book("q", "q-", "q");
        for (String line : lines) {
            Due.line(y, 1, line);
        }
        StringBuilder second = new StringBuilder();
        for (int p = 0; p < y.edition(1, 1); p++) {
            second.append(y.word(1, p, 3));
        }
        s.are("CUT ones in EDITION 1", second.toString(), cut);
        s.is("count(1)", y.count(1), 2 + cut.length());
    }

    private void cutRuns() {
        s.of("I", "If the last byte of a LINE is a - right behind a RUN, and the next LINE has a RUN, that RUN is CUT:");
        cutIs("ab", "1", "a-", "b");
        cutIs("a b", "00", "a -", "b");
        cutIs("a b", "00", "a- ", "b");
        cutIs("a b", "00", "a--", "b");
        cutIs("b", "0", "-", "b");
        cutIs("b", "0", " -", "b");
        cutIs("a b", "00", "a", "b");
        cutIs("a b", "00", "a", "-b");
        cutIs("a b c", "000", "a-b", "c");
        cutIs("a", "0", "a-");
        cutIs("a", "0", "a-", "");
        cutIs("a", "0", "a-", " --");
        cutIs("a b", "00", "a-", "", "b");
        cutIs("a b", "00", "a-", "-", "b");
        cutIs("a bc", "01", "a-b-", "c");
        String sixty = Due.times(" ", 58) + "a-";
        cutIs("ab", "1", sixty, Due.times(" ", 59) + "b");
        WordPlaces x = Due.book("a-");
        Due.line(x, 1, "b");
        s.is("the other EDITION's LINE is not the next", x.word(0, 0, 3), 0);
        for (int i = 1; i < 40; i++) {
            Due.line(x, 0, "a-");
        }
        s.is("nor behind the 40th", x.word(0, 0, 0), 0);
        s.is("whose letters end", x.form(0, 0), 20);
        Due.put(x, "").right(0, 38);
        s.is("WORDS", x.edition(0, 1), 2);
        s.is("the 40th has no next one", x.word(0, 1, 3), 0);
        s.is("its letter", x.form(x.word(0, 1, 0), 0), 1);
        s.is("EDITION 1's WORD", x.edition(1, 1), 1);
    }

    private void cutFurther() {
        s.of("I", "with the first RUN of the next LINE (which may be CUT itself, if it is the last one there, too) it is one"
            + " WORD, which stands where it begins");
        cutIs("ab c", "10", "a-", " -b c");
        cutIs("abc", "1", "a-", "b-", "c");
        cutIs("ab cd", "11", "a-", "b c-", "d");
        cutIs("ab", "1", "a-", "b-", "");
        cutIs("ab c", "10", "a-", "b -", "c");
        cutIs("x abcd e", "010", "x a-", "b-", " c-", "d e");
        WordPlaces x = Due.book("x a-", "b-", "c d-", "e f");
        s.is("WORDS", x.edition(0, 1), 4);
        int[][] due = {{0, 0}, {0, 1}, {2, 0}, {3, 0}};
        for (int p = 0; p < 4; p++) {
            s.is("LINE of WORD " + p, x.word(0, p, 1), due[p][0]);
            s.is("which WORD of it is " + p, x.word(0, p, 2), due[p][1]);
        }
        x = new WordPlaces();
        for (int i = 0; i < 40; i++) {
            Due.line(x, 0, Due.times("z", 59) + "-");
        }
        s.is("one WORD of 40 LINES", x.edition(0, 1), 1);
        s.is("its LINE", x.word(0, 0, 1), 0);
        s.is("its FORM's letters", x.form(0, 0), 20);
        Due.put(x, "z").right(0, 38);
        s.is("the last LINE's - is right behind a RUN without a next LINE", x.edition(0, 1), 2);
        s.is("it is not CUT", x.word(0, 1, 3), 0);
    }

    private void otherRuns() {
        s.of("I", "any other RUN is a WORD");
        formsAre("a b cd e f", "a b c-", "d e", "f-", "-");
        formsAre("a b", "a -", "- b");
    }

    private void placesInOrder() {
        s.of("I", "WORDS of an EDITION have PLACES 0 .. in their order, a LINE's begin in it.");
        WordPlaces x = Due.book("c b", "", "a d-", "e a");
        Due.line(x, 1, "z c");
        s.are("FORMS", Due.allForms(x), "a b c de z");
        int[] forms = {2, 1, 0, 3, 0};
        int[] lines = {0, 0, 2, 2, 3};
        for (int p = 0; p < 5; p++) {
            s.is("FORM of PLACE " + p, x.word(0, p, 0), forms[p]);
            s.is("LINE of PLACE " + p, x.word(0, p, 1), lines[p]);
        }
        s.is("no PLACE 5", x.word(0, 5, 0), NOTHING);
        s.is("EDITION 1 has its own", x.word(1, 0, 0), 4);
        s.is("no PLACE 2 there", x.word(1, 2, 0), NOTHING);
    }

    private void firstTwentyLetters() {
        s.of("I", "A FORM: a WORD's letters, folded, the first 20 of them.");
        for (int size : new int[] {1, 10, 11, 19, 20, 21, 59, 60}) {
            WordPlaces x = Due.book(Due.times("v", size));
            Due.rules(x, "fold v to u;");
            s.are("FORM of " + size, Due.allForms(x), Due.times("u", Math.min(20, size)));
            s.is("form(0, 0)", x.form(0, 0), Math.min(20, size));
        }
        s.is("unlike in the 21st letter", Due.book(TWENTY + "a " + TWENTY + "b").forms(), 1);
        s.is("unlike in the 20th", Due.book(TWENTY.substring(0, 19) + "a " + TWENTY.substring(0, 19) + "b").forms(), 2);
        s.is("20 and 19 of them", Due.book(TWENTY + " " + TWENTY.substring(0, 19)).forms(), 2);
        formsAre(TWENTY, "abcdefghijklmnopqrs-", "tuv");
        formsAre(TWENTY, "abcdefghijklmnopqrst-", "uv");
        formsAre("abcdefghijklmnopqrsu", "abcdefghijklmnopqrs-", "uv");
        WordPlaces x = Due.book(TWENTY + "v");
        Due.rules(x, "fold t to v;fold v to t;");
        s.are("the 20th is folded", Due.allForms(x), "abcdefghijklmnopqrsv");
    }

    private void numbersByLetters() {
        s.of("I", "FORMS of both EDITIONS have numbers 0 .. by their letters (a row that ends is ahead).");
        for (int size = 1; size < 20; size++) {
            String ahead = TWENTY.substring(0, size);
            WordPlaces x = Due.book(ahead + "b " + ahead);
            Due.line(x, 1, ahead + "a " + ahead + "b" + (size < 19 ? "z" : ""));
            String last = size < 19 ? " " + ahead + "bz" : "";
            s.are("FORMS with " + size + " alike", Due.allForms(x), ahead + " " + ahead + "a " + ahead + "b" + last);
        }
        WordPlaces x = Due.book("z zz a");
        Due.rules(x, "order z;");
        s.are("by letters, not by the ORDER", Due.allForms(x), "a z zz");
        Due.rules(x, "fold z to a;fold a to b;");
        s.are("by folded letters", Due.allForms(x), "a aa b");
    }

    private void madeAnew() {
        s.of("I", "All this is made anew as LINES or RULES change.");
        WordPlaces x = Due.book("b d");
        Due.line(x, 1, "d");
        bookIs(x, "b d", 1, 0);
        x.keep(0);
        Due.line(x, 0, "c");
        bookIs(x, "b c d", 2, 0);
        Due.line(x, 1, "a");
        bookIs(x, "a b c d", 3, 0);
        Due.put(x, "d b").right(0, 0);
        bookIs(x, "a b c d", 3, 0);
        Due.rules(x, "fold d to a;order b;");
        bookIs(x, "a b c", 0, 1);
        s.are("by the ORDER", Due.allOrdered(x), "b a c");
        x.rules();
        bookIs(x, "a b c d", 3, 0);
        x.row(0, 0, 1);
        x.write(0, 0, 'e');
        x.lineOf(0, 0);
        bookIs(x, "a b c d e", 3, 0);
        x.back(0);
        bookIs(x, "b d", 1, 0);
    }

    /** FORMS, the number of EDITION 1's first one, and how many stand ahead of it by the ORDER. */
    private void bookIs(WordPlaces x, String forms, int first, int ahead) {
        s.are("FORMS", Due.allForms(x), forms);
        s.is("forms()", x.forms(), forms.split(" ").length);
        s.is("word(1, 0, 0)", x.word(1, 0, 0), first);
        s.is("stands(1, " + first + ", 0)", x.stands(1, first, 0), 0);
        s.is("ordered(" + (first + ahead) + ")", x.ordered(first + ahead), first);
        s.is("edition(0, 2)", x.edition(0, 2), x.edition(0, 1));
    }

    // Promises 6 to 8.

    private void lineNumbers() {
        s.of("Promise 6", "is a further LINE of an EDITION: its number");
        WordPlaces x = new WordPlaces();
        s.is("first of EDITION 1", Due.line(x, 1, "a"), 0);
        s.is("first of EDITION 0", Due.line(x, 0, "a"), 0);
        s.is("second of EDITION 0", Due.line(x, 0, "a"), 1);
        s.is("a refused one", Due.line(x, 0, "!"), -4);
        s.is("it has no number", Due.line(x, 0, "a"), 2);
        s.is("second of EDITION 1", Due.line(x, 1, ""), 1);
    }

    private void lineOfNoEdition() {
        s.of("Promise 6", "-2: there is no such EDITION");
        for (int e : Sentences.beyond(2)) {
            for (String text : new String[] {"a b", "!", Due.times("a", 61)}) {
                WordPlaces x = Due.put(new WordPlaces(), text);
                s.is("line(" + e + ")", x.line(e), -2);
                s.is("count(0)", x.count(0), 0);
                s.is("the TAPE stays", x.count(5), text.length());
                s.is("and is a LINE then", x.line(0), text.equals("a b") ? 0 : -4);
            }
        }
    }

    private void lineOfOtherBytes() {
        s.of("Promise 6", "-4: more than 60 bytes, or one that is no letter, blank, -");
        for (String text : new String[] {Due.times("a", 61), Due.times(" ", 61), Due.times("-", 400), "A", "Z", "`", "{", "@",
            "0", ".", "\n", "\t", "\u0000", "\u00e1", "a,", ",a", Due.times("a", 59) + ",", Due.times("a", 60) + ","}) {
            WordPlaces x = Due.book("b-");
            s.is("line of " + text, Due.line(x, 0, text), -4);
            s.is("LINES", x.edition(0, 0), 1);
            s.is("no RUN is CUT by it", x.word(0, 0, 3), 0);
        }
        WordPlaces x = new WordPlaces();
        for (int i = 0; i < 40; i++) {
            Due.line(x, 0, "a");
        }
        s.is("as a 41st", Due.line(x, 0, "A"), -4);
    }

    private void linesBeyond() {
        s.of("Promise 6", "-3: it has 40, or would have more than 300 WORDS");
        WordPlaces x = new WordPlaces();
        for (int i = 0; i < 9; i++) {
            Due.line(x, 0, Due.times("a ", 30));
        }
        s.is("299 WORDS", Due.line(x, 0, Due.times("a ", 29)), 9);
        s.is("301", Due.line(x, 0, "b c"), -3);
        s.is("edition(0, 1)", x.edition(0, 1), 299);
        s.is("300", Due.line(x, 0, "b"), 10);
        s.is("301", Due.line(x, 0, "c"), -3);
        s.is("330", Due.line(x, 0, Due.times("c ", 30)), -3);
        s.is("no more", Due.line(x, 0, " - "), 11);
        s.is("edition(0, 1)", x.edition(0, 1), 300);
        s.is("FORMS", x.forms(), 2);
        s.is("EDITION 1 takes others", Due.line(x, 1, "c"), 0);
        for (int i = 0; i < 10; i++) {
            Due.line(x, 1, Due.times("a ", 29) + "a-");
        }
        s.is("301 RUNS of EDITION 1, nine CUT", x.edition(1, 1), 292);
        s.is("309 RUNS, ten CUT", Due.line(x, 1, Due.times("a ", 10)), -3);
        s.is("308 RUNS less one, ten CUT", Due.line(x, 1, Due.times("a ", 9)), 11);
        s.is("300 in EDITION 1", x.edition(1, 1), 300);
        s.is("no more there", Due.line(x, 1, "a"), -3);
        Due.put(x, "c").right(1, 0);
        Due.put(x, "b-").right(0, 10);
        Due.put(x, "-c").right(0, 11);
        s.is("301 RUNS, one CUT", x.edition(0, 1), 300);
        s.is("301 RUNS and one behind", Due.line(x, 0, "d"), -3);
        Due.put(x, "c-").right(0, 11);
        s.is("302 RUNS, two CUT", Due.line(x, 0, "d"), 12);
        s.is("edition(0, 1)", x.edition(0, 1), 300);
        s.are("the last", Due.letters(x, x.word(0, 299, 0)), "bcd");
    }

    private void tapeEmptyThen() {
        s.of("Promise 6", "The TAPE (empty then, but by -2)");
        WordPlaces x = new WordPlaces();
        s.is("line", Due.line(x, 0, "a"), 0);
        s.is("empty", x.count(5), 0);
        s.is("-4", Due.line(x, 0, "A"), -4);
        s.is("empty by -4", x.count(5), 0);
        for (int i = 1; i < 40; i++) {
            x.line(0);
        }
        s.is("-3", Due.line(x, 0, "a"), -3);
        s.is("empty by -3", x.count(5), 0);
        s.is("an empty TAPE is a LINE", x.line(1), 0);
        Due.put(x, "b c");
        s.is("-2", x.line(2), -2);
        s.is("it stays by -2", x.count(5), 3);
    }

    private void rightInPlace() {
        s.of("Promise 7", "The TAPE (empty then) comes in place of LINE i: how many WORDS the EDITION has then");
        WordPlaces x = Due.book("a b", "c", "d");
        s.is("more WORDS", Due.put(x, "x y z").right(0, 0), 5);
        s.is("the TAPE is empty", x.count(5), 0);
        s.is("an empty TAPE", x.right(0, 0), 2);
        s.is("the last LINE", Due.put(x, "e f").right(0, 2), 3);
        s.is("LINES", x.edition(0, 0), 3);
        s.are("FORMS", Due.allForms(x), "c e f");
        s.is("a RUN that is CUT", Due.put(x, "a b-").right(0, 0), 4);
        s.are("FORMS", Due.allForms(x), "a bc e f");
        s.is("the LINE behind it without a RUN", Due.put(x, "-").right(0, 1), 4);
        s.are("no RUN is CUT", Due.allForms(x), "a b e f");
        s.is("the other EDITION has no LINES", x.right(1, 0), -2);
        x = Due.book("a b-", "c d-", "e");
        s.is("two are CUT", x.word(0, 1, 3) + x.word(0, 2, 3), 2);
        Due.put(x, "a b").right(0, 0);
        s.is("one is not", x.word(0, 1, 3), 0);
        s.is("nor what stands at the other's PLACE", x.word(0, 2, 3), 0);
        s.is("which stands behind it", x.word(0, 3, 3), 1);
        Due.put(x, "").right(0, 2);
        s.is("and is none now", x.word(0, 3, 3), 0);
    }

    private void rightOfNone() {
        s.of("Promise 7", "-2 (the TAPE stays): there are none such");
        WordPlaces x = Due.book("a", "b");
        Due.line(x, 1, "c");
        Due.put(x, "d e");
        for (int e : Sentences.beyond(2)) {
            s.is("right(" + e + ", 0)", x.right(e, 0), -2);
        }
        for (int i : Sentences.beyond(2)) {
            s.is("right(0, " + i + ")", x.right(0, i), -2);
        }
        s.is("right(1, 1), though EDITION 0 has one", x.right(1, 1), -2);
        s.is("the TAPE stays", x.count(5), 3);
        s.is("LINES", x.count(0), 3);
        s.are("FORMS", Due.allForms(x), "a b c");
        s.is("the TAPE is a LINE then", x.right(1, 0), 2);
        Due.put(x, "!");
        s.is("-2 of a TAPE that is no LINE", x.right(0, 2), -2);
    }

    private void rightRefused() {
        s.of("Promise 7", "-4, -3 likewise");
        WordPlaces x = new WordPlaces();
        for (int i = 0; i < 40; i++) {
            Due.line(x, 0, i < 9 ? Due.times("a ", 30) : i < 38 ? "b" : i == 38 ? "c" : "");
        }
        s.is("300 WORDS in 40 LINES", x.edition(0, 1), 300);
        for (String text : new String[] {Due.times("a", 61), Due.times(" ", 400), "A", "a`", "{a", "a\nb"}) {
            s.is("right of " + text, Due.put(x, text).right(0, 0), -4);
            s.is("the TAPE is empty by -4", x.count(5), 0);
        }
        s.is("301", Due.put(x, "a").right(0, 39), -3);
        s.is("the TAPE is empty by -3", x.count(5), 0);
        s.is("301", Due.put(x, "a b").right(0, 38), -3);
        s.is("edition(0, 1)", x.edition(0, 1), 300);
        s.are("the LINE stays", Due.letters(x, x.word(0, 299, 0)), "c");
        s.is("300, one CUT with the next", Due.put(x, "a c-").right(0, 38), -3);
        s.is("the last with none", Due.put(x, "c-").right(0, 38), 300);
        s.is("now the next one may have a RUN", Due.put(x, "d").right(0, 39), 300);
        s.is("but not two", Due.put(x, "d e").right(0, 39), -3);
        s.is("and the - may not go", Due.put(x, "c").right(0, 38), -3);
        s.are("the last WORD", Due.letters(x, x.word(0, 299, 0)), "cd");
        s.is("one less", Due.put(x, "-").right(0, 37), 299);
        s.is("60 bytes", Due.put(x, Due.times("a", 60)).right(0, 37), 300);
    }

    private static void writeAll(WordPlaces x, int slot, String text) {
        for (int i = 0; i < text.length(); i++) {
            x.write(slot, i, text.charAt(i));
        }
    }

    private void lineOfRow() {
        s.of("Promise 8", "LINES for each row of a SLOT (its bytes; of a WIDTH 0 alone): as line().");
        WordPlaces x = new WordPlaces();
        for (int slot = 0; slot < 4; slot++) {
            x.row(slot, 0, 3);
            s.is("bytes of 0", x.lineOf(0, slot), -4);
            writeAll(x, slot, "a" + "bcde".charAt(slot) + "-");
            s.is("lineOf(0, " + slot + ")", x.lineOf(0, slot), slot);
            s.is("lineOf(1, " + slot + ")", x.lineOf(1, slot), slot);
        }
        s.is("the SLOT's row stays", x.lineOf(0, 0), 4);
        s.is("one WORD", x.edition(0, 1), 1);
        s.are("FORMS", Due.allForms(x), "abacadae abacadaeab");
        for (int b = 0; b < 256; b++) {
            WordPlaces one = new WordPlaces();
            one.row(0, 0, 1);
            one.write(0, 0, b);
            boolean good = b >= 'a' && b <= 'z' || b == 32 || b == 45;
            s.is("lineOf of byte " + b, one.lineOf(0, 0), good ? 0 : -4);
        }
        x = new WordPlaces();
        x.row(0, 0, 0);
        s.is("an empty row", x.lineOf(0, 0), 0);
        x.row(1, 0, 60);
        writeAll(x, 1, Due.times("a ", 30));
        for (int i = 1; i <= 10; i++) {
            s.is("60 bytes", x.lineOf(0, 1), i);
        }
        s.is("330 WORDS", x.lineOf(0, 1), -3);
        WordPlaces y = new WordPlaces();
        y.row(0, 0, 60);
        writeAll(y, 0, Due.times(" ", 58) + "a-");
        y.lineOf(0, 0);
        y.lineOf(0, 0);
        s.is("60 bytes, the last a - right behind a RUN", y.edition(0, 1), 1);
        s.is("which is CUT", y.word(0, 0, 3), 1);
        for (int i = 11; i < 40; i++) {
            s.is("LINE " + i, x.lineOf(0, 0), i);
        }
        s.is("a 41st LINE", x.lineOf(0, 0), -3);
        s.is("edition(0, 1)", x.edition(0, 1), 300);
    }

    private void lineOfNoSlot() {
        s.of("Promise 8", "-2 also: there is no such SLOT; -6: it has nothing; -8: another WIDTH.");
        WordPlaces x = new WordPlaces();
        for (int slot = 0; slot < 4; slot++) {
            s.is("lineOf(0, " + slot + ")", x.lineOf(0, slot), -6);
        }
        for (int slot : Sentences.beyond(4)) {
            s.is("lineOf(0, " + slot + ")", x.lineOf(0, slot), -2);
        }
        for (int e : Sentences.beyond(2)) {
            s.is("lineOf(" + e + ", 0)", x.lineOf(e, 0), -2);
        }
        for (int width = 1; width < 4; width++) {
            x.row(width, width, 0);
            s.is("WIDTH " + width, x.lineOf(1, width), -8);
        }
        x.row(1, 0, 0);
        s.is("WIDTH 0 in its place", x.lineOf(1, 1), 0);
        s.is("LINES", x.count(0), 1);
    }

    private void lineOfLeavesTape() {
        s.of("Promise 8", "(The TAPE stays.)");
        WordPlaces x = Due.put(new WordPlaces(), "b");
        x.row(0, 0, 0);
        x.row(1, 1, 0);
        x.row(2, 0, 1);
        int[] due = {0, -8, -4, -6, -2};
        for (int slot = 0; slot < 5; slot++) {
            s.is("lineOf(0, " + slot + ")", x.lineOf(0, slot), due[slot]);
            s.is("the TAPE stays", x.count(5), 1);
        }
        s.is("lineOf(2, 0)", x.lineOf(2, 0), -2);
        for (int i = 1; i < 40; i++) {
            x.lineOf(0, 0);
        }
        s.is("a 41st", x.lineOf(0, 0), -3);
        s.is("the TAPE stays", x.count(5), 1);
        x.line(1);
        s.are("as it was", Due.allForms(x), "b");
    }

    // Promises 9 to 13.

    private void editionTold() {
        s.of("Promise 9", "Of an EDITION, what 0: LINES, 1: WORDS, 2: different FORMS in it");
        WordPlaces x = Due.book("a b a", "", "vb ub");
        Due.line(x, 1, "c a");
        Due.rules(x, "fold v to u;");
        int[][] due = {{3, 5, 3}, {1, 2, 2}};
        for (int e = 0; e < 2; e++) {
            for (int what = 0; what < 3; what++) {
                s.is("edition(" + e + ", " + what + ")", x.edition(e, what), due[e][what]);
            }
        }
        x = Sentences.full();
        s.is("300 WORDS", x.edition(1, 1), 300);
        s.is("300 FORMS", x.edition(1, 2), 300);
        s.of("Promise 9", "NOTHING (-2,000,000,000) for others");
        for (int what : Sentences.beyond(3)) {
            s.is("edition(1, " + what + ")", x.edition(1, what), NOTHING);
        }
        for (int e : Sentences.beyond(2)) {
            s.is("edition(" + e + ", 1)", x.edition(e, 1), NOTHING);
        }
    }

    private void wordTold() {
        s.of("Promise 10", "Of WORD p of an EDITION (its PLACE), what 0: its FORM, 1: its LINE, 2: which WORD of this LINE, 3: 1"
            + " if it was CUT, 0");
        WordPlaces x = Due.book("b", "-a c-", "c d a-", "-");
        int[][] due = {{1, 0, 0, 0}, {0, 1, 0, 0}, {2, 1, 1, 1}, {3, 2, 0, 0}, {0, 2, 1, 0}};
        s.are("FORMS", Due.allForms(x), "a b cc d");
        for (int p = 0; p < 5; p++) {
            for (int what = 0; what < 4; what++) {
                s.is("word(0, " + p + ", " + what + ")", x.word(0, p, what), due[p][what]);
            }
        }
        x = Sentences.full();
        s.is("the last WORD's FORM", x.word(1, 299, 0), 599);
        s.is("its LINE", x.word(1, 299, 1), 19);
        s.is("which WORD of it", x.word(1, 299, 2), 14);
        s.of("Promise 10", "NOTHING for others");
        for (int what : Sentences.beyond(4)) {
            s.is("word(0, 0, " + what + ")", x.word(0, 0, what), NOTHING);
        }
        for (int p : Sentences.beyond(300)) {
            s.is("word(1, " + p + ", 1)", x.word(1, p, 1), NOTHING);
        }
        for (int e : Sentences.beyond(2)) {
            s.is("word(" + e + ", 0, 1)", x.word(e, 0, 1), NOTHING);
        }
        x = Due.book("a b");
        Due.line(x, 1, "a");
        s.is("EDITION 1 has no second", x.word(1, 1, 0), NOTHING);
        Due.put(x, "a").right(0, 0);
        s.is("nor EDITION 0 now", x.word(0, 1, 0), NOTHING);
    }

    private void formsOfBoth() {
        s.of("Promise 11", "FORMS of both EDITIONS: how many");
        s.is("none", new WordPlaces().forms(), 0);
        s.is("of LINES without WORDS", Due.book("", "-").forms(), 0);
        s.is("one, often", Due.book("a a", "a").forms(), 1);
        WordPlaces x = Due.book("a b");
        Due.line(x, 1, "b c");
        s.is("one in both", x.forms(), 3);
        x = new WordPlaces();
        Due.line(x, 1, "c");
        s.is("of EDITION 1 alone", x.forms(), 1);
        x = Sentences.full();
        s.is("300 and 300", x.forms(), 600);
        s.are("the last", Due.letters(x, 599), Sentences.unlike(599));
    }

    private void formTold() {
        s.of("Promise 12", "Of FORM f, what 0: its letters, 1: how often in EDITION 0, 2: in 1, 3: 1 if it is a STOP, 0; 4: its ROOT"
            + " (the place in RULES among ROOTS; NONE)");
        WordPlaces x = Due.book("ab a ab", "c");
        Due.line(x, 1, "c c a dddddddddddddddddddddd");
        Due.rules(x, "root q of z;stop ab;root r of c ab;order z;root t of ab a;stop c;");
        int[][] due = {{1, 1, 1, 0, 2}, {2, 2, 0, 1, 1}, {1, 1, 2, 1, 1}, {20, 0, 1, 0, -1}};
        for (int f = 0; f < 4; f++) {
            for (int what = 0; what < 5; what++) {
                s.is("form(" + f + ", " + what + ")", x.form(f, what), due[f][what]);
            }
        }
        x = Sentences.ofLetters(Due.times("a", 300));
        s.is("300 times", x.form(0, 1), 300);
        x = Sentences.full();
        s.is("the last FORM in EDITION 0", x.form(599, 1), 0);
        s.is("and in EDITION 1", x.form(599, 2), 1);
    }

    private void lettersTold() {
        s.of("Promise 12", "10 + i: letter i (97 .. 122; NONE)");
        WordPlaces x = Due.book(TWENTY + "z", "az zzzzzzzzzz");
        for (int i = 0; i < 20; i++) {
            s.is("letter " + i, x.form(0, 10 + i), 'a' + i);
        }
        s.is("a", x.form(1, 10), 97);
        s.is("z", x.form(1, 11), 122);
        s.is("none behind the last", x.form(1, 12), -1);
        s.is("the tenth", x.form(2, 19), 122);
        s.is("none behind the tenth", x.form(2, 20), -1);
        for (int what : new int[] {30, 31, 41, 266, 1000000, Integer.MAX_VALUE - 10, Integer.MAX_VALUE}) {
            s.is("form(0, " + what + ")", x.form(0, what), -1);
        }
    }

    private void formOfNothing() {
        s.of("Promise 12", "NOTHING for others");
        WordPlaces x = Due.book("a b");
        Due.line(x, 1, "c");
        for (int what : new int[] {5, 6, 7, 8, 9, -1, -2, -10, -2147483638, Integer.MIN_VALUE}) {
            s.is("form(0, " + what + ")", x.form(0, what), NOTHING);
        }
        for (int f : Sentences.beyond(3)) {
            for (int what : new int[] {0, 1, 2, 3, 4, 10, 11, 30, Integer.MAX_VALUE}) {
                s.is("form(" + f + ", " + what + ")", x.form(f, what), NOTHING);
            }
        }
        Due.rules(x, "fold c to b;");
        s.is("there are two now", x.form(2, 0), NOTHING);
        s.is("beyond 600", Sentences.full().form(600, 0), NOTHING);
    }

    private void orderedTold() {
        s.of("Promise 13", "The i-th FORM by the ORDER (I) among all");
        WordPlaces x = Due.book("c a");
        Due.line(x, 1, "b");
        Due.rules(x, "order b;");
        int[] due = {1, 0, 2};
        for (int i = 0; i < 3; i++) {
            s.is("ordered(" + i + ")", x.ordered(i), due[i]);
        }
        WordPlaces full = Sentences.full();
        Due.rules(full, "order zyxwvutsrqponmlkjihgfedcba;");
        for (int i = 0; i < 600; i += 149) {
            s.is("of 600, ordered(" + i + ")", full.ordered(i), 599 - i);
        }
        s.of("Promise 13", "NONE: there is none such");
        for (int i : Sentences.beyond(3)) {
            s.is("ordered(" + i + ")", x.ordered(i), -1);
        }
        for (int i : Sentences.beyond(600)) {
            s.is("of 600, ordered(" + i + ")", full.ordered(i), -1);
        }
        s.is("of none", new WordPlaces().ordered(0), -1);
    }
}
