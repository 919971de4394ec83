/** Promises 6, 7, 9 to 13: LINES, WORDS, FORMS, the ORDER. */
public final class BookTest {
    private static final Due due = new Due("BookTest");
    private static final int NOTHING = -2000000000;

    public static void main(String[] args) {
        linesTaken();
        linesRefused();
        linesRighted();
        wordsCut();
        wordsNotCut();
        wordsBeyond();
        formsNumbered();
        formsRuled();
        formsOrdered();
        due.end();
    }

    private static void linesTaken() {
        WordPlaces x = new WordPlaces();
        due.is("line 0", Due.line(x, 0, "in principio"), 0);
        due.is("the TAPE is empty", x.count(5), 0);
        due.is("line 1", Due.line(x, 0, "erat verbum -et- verbum"), 1);
        due.is("line of edition 1", Due.line(x, 1, ""), 0);
        due.is("edition(0, 0)", x.edition(0, 0), 2);
        due.is("edition(0, 1)", x.edition(0, 1), 6);
        due.is("edition(0, 2)", x.edition(0, 2), 5);
        due.is("edition(1, 0)", x.edition(1, 0), 1);
        due.is("edition(1, 1)", x.edition(1, 1), 0);
        due.is("edition(1, 2)", x.edition(1, 2), 0);
        due.is("edition(0, 3)", x.edition(0, 3), NOTHING);
        due.is("edition(0, -1)", x.edition(0, -1), NOTHING);
        due.is("edition(-1, 0)", x.edition(-1, 0), NOTHING);
        due.is("edition(2, 0)", x.edition(2, 0), NOTHING);
        due.is("word(0, 0, 1)", x.word(0, 0, 1), 0);
        due.is("word(0, 5, 1)", x.word(0, 5, 1), 1);
        due.is("word(0, 5, 2)", x.word(0, 5, 2), 3);
        due.is("word(0, 2, 2)", x.word(0, 2, 2), 0);
        due.is("word(0, 5, 0) is word(0, 3, 0)", x.word(0, 5, 0), x.word(0, 3, 0));
        due.is("word(0, 5, 4)", x.word(0, 5, 4), NOTHING);
        due.is("word(0, 5, -1)", x.word(0, 5, -1), NOTHING);
        due.is("word(0, 6, 0)", x.word(0, 6, 0), NOTHING);
        due.is("word(0, -1, 0)", x.word(0, -1, 0), NOTHING);
        due.is("word(1, 0, 0)", x.word(1, 0, 0), NOTHING);
        due.is("word(2, 0, 0)", x.word(2, 0, 0), NOTHING);
        due.is("count(0)", x.count(0), 3);
        due.is("count(1)", x.count(1), 6);
    }

    private static void linesRefused() {
        WordPlaces x = new WordPlaces();
        Due.put(x, "a");
        due.is("line(2)", x.line(2), -2);
        due.is("line(-1)", x.line(-1), -2);
        due.is("the TAPE stays by -2", x.count(5), 1);
        x.end(0);
        due.is("60 bytes", Due.line(x, 0, Due.times("ab ", 20)), 0);
        due.is("61 bytes", Due.line(x, 0, Due.times("ab ", 20) + "a"), -4);
        due.is("the TAPE is empty by -4", x.count(5), 0);
        due.is("a great letter", Due.line(x, 0, "aB"), -4);
        due.is("a newline", Due.line(x, 0, "a\nb"), -4);
        due.is("a digit", Due.line(x, 0, "a1"), -4);
        due.is("{", Due.line(x, 0, "{"), -4);
        due.is("a byte above 127", Due.line(x, 0, "a\u00e9"), -4);
        due.is("edition(0, 0)", x.edition(0, 0), 1);
        for (int i = 1; i < 40; i++) {
            due.is("line " + i, Due.line(x, 0, "-"), i);
        }
        due.is("line 40", Due.line(x, 0, "-"), -3);
        due.is("the TAPE is empty by -3", x.count(5), 0);
        due.is("line 40 of great letters", Due.line(x, 0, "A"), -4);
        due.is("line of edition 1", Due.line(x, 1, "-"), 0);
        due.is("edition(0, 0)", x.edition(0, 0), 40);
        tooManyWords();
    }

    private static void tooManyWords() {
        WordPlaces x = new WordPlaces();
        for (int i = 0; i < 10; i++) {
            Due.line(x, 0, Due.times("a ", 29) + "a-");
        }
        due.is("a WORD is cut at each end", x.edition(0, 1), 291);
        due.is("10 more, the first cut", Due.line(x, 0, Due.times("a ", 9) + "b-"), 10);
        due.is("edition(0, 1)", x.edition(0, 1), 300);
        due.is("one, cut", Due.line(x, 0, "b-"), 11);
        due.is("two, one cut", Due.line(x, 0, "b b"), -3);
        due.is("one that takes a cut away", put(x, "b").right(0, 11), 300);
        due.is("a blank LINE between", put(x, "").right(0, 10), 292);
        due.is("as it was", put(x, Due.times("a ", 9) + "b-").right(0, 10), 300);
        due.is("one that would be 301", put(x, Due.times("a ", 9) + "b").right(0, 10), -3);
        due.is("the TAPE is empty by -3", x.count(5), 0);
        due.is("edition(0, 1)", x.edition(0, 1), 300);
        due.is("the last WORD's letters", Due.letters(x, x.word(0, 299, 0)).length(), 2);
        due.is("the first of the 301 in edition 1", Due.line(x, 1, "b b"), 0);
        due.is("count(1)", x.count(1), 302);
        x = new WordPlaces();
        for (int i = 0; i < 10; i++) {
            Due.line(x, 0, Due.times("a ", 29) + (i < 9 ? "a" : "a-"));
        }
        due.is("300 WORDS", x.edition(0, 1), 300);
        due.is("no WORD", Due.line(x, 0, "  -"), 10);
        due.is("the - ahead of a LINE without a RUN cuts none", Due.line(x, 0, "b"), -3);
        due.is("but ahead of one with a RUN", put(x, "b").right(0, 10), 300);
    }

    private static WordPlaces put(WordPlaces x, String text) {
        return Due.put(x, text);
    }

    private static void linesRighted() {
        WordPlaces x = Due.book("a b", "c d e", "f");
        due.is("right", put(x, "x y z x").right(0, 1), 7);
        due.are("forms", Due.allForms(x), "a b f x y z");
        due.is("the TAPE is empty", x.count(5), 0);
        put(x, "a");
        due.is("right(0, 3)", x.right(0, 3), -2);
        due.is("right(0, -1)", x.right(0, -1), -2);
        due.is("right(1, 0)", x.right(1, 0), -2);
        due.is("right(2, 0)", x.right(2, 0), -2);
        due.is("the TAPE stays", x.count(5), 1);
        x.end(0);
        due.is("no letters", put(x, "!").right(0, 1), -4);
        due.is("the TAPE is empty by -4", x.count(5), 0);
        due.is("edition(0, 1)", x.edition(0, 1), 7);
        due.is("a dash", put(x, "a b-").right(0, 0), 6);
        due.is("it is CUT", x.word(0, 1, 3), 1);
        due.are("forms", Due.allForms(x), "a bx f x y z");
        due.is("a shorter LINE", put(x, "q").right(0, 0), 6);
        due.are("forms", Due.allForms(x), "f q x y z");
    }

    private static void wordsCut() {
        WordPlaces x = Due.book("in prin-", "  ci-", "-pio- ", "erat");
        due.are("forms", Due.allForms(x), "erat in principio");
        due.is("word(0, 1, 1)", x.word(0, 1, 1), 0);
        due.is("word(0, 1, 2)", x.word(0, 1, 2), 1);
        due.is("word(0, 1, 3)", x.word(0, 1, 3), 1);
        due.is("word(0, 2, 1)", x.word(0, 2, 1), 3);
        due.is("word(0, 2, 2)", x.word(0, 2, 2), 0);
        due.is("word(0, 0, 3)", x.word(0, 0, 3), 0);
        due.is("word(0, 2, 3)", x.word(0, 2, 3), 0);
        x = Due.book("a-", "b c-", "d e");
        due.are("forms", Due.allForms(x), "ab cd e");
        due.is("word(0, 1, 1)", x.word(0, 1, 1), 1);
        due.is("word(0, 1, 2)", x.word(0, 1, 2), 0);
        due.is("word(0, 2, 2)", x.word(0, 2, 2), 0);
        x = Due.book("abcdefghijkl-", "mnopqrs-", "tuvwxyz");
        due.are("the first 20 letters", Due.allForms(x), "abcdefghijklmnopqrst");
        due.is("form(0, 0)", x.form(0, 0), 20);
        x = Due.book("a-", "b-");
        due.are("the last LINE has none behind it", Due.allForms(x), "ab");
        Due.line(x, 0, "c");
        due.are("now it has", Due.allForms(x), "abc");
        due.is("edition(0, 1)", x.edition(0, 1), 1);
    }

    private static void wordsNotCut() {
        WordPlaces x = Due.book("a-", "", "b");
        due.are("the next LINE has no RUN", Due.allForms(x), "a b");
        due.is("word(0, 0, 3)", x.word(0, 0, 3), 0);
        x = Due.book("a -", "b- ", "c--", "d");
        due.are("not right behind, not the last, two", Due.allForms(x), "a b c d");
        x = Due.book("-", "a");
        due.are("a - alone", Due.allForms(x), "a");
        x = Due.book("a-b", "c");
        due.are("a - inside parts", Due.allForms(x), "a b c");
        x = Due.book("a-");
        Due.line(x, 1, "b");
        due.are("EDITIONS are apart", Due.allForms(x), "a b");
    }

    private static void wordsBeyond() {
        String twenty = "abcdefghijklmnopqrst";
        WordPlaces x = Due.book(twenty + "u " + twenty + "v " + "b");
        due.is("forms()", x.forms(), 2);
        due.is("form(0, 0)", x.form(0, 0), 20);
        due.is("form(0, 1)", x.form(0, 1), 2);
        due.is("form(0, 29)", x.form(0, 29), 't');
        due.is("form(0, 30)", x.form(0, 30), -1);
        due.is("form(0, 2147483647)", x.form(0, 2147483647), -1);
        due.is("form(1, 10)", x.form(1, 10), 'b');
        due.is("form(1, 11)", x.form(1, 11), -1);
    }

    private static void formsNumbered() {
        WordPlaces x = Due.book("ab a abc b aa");
        Due.line(x, 1, "b aab ab ab");
        due.are("forms", Due.allForms(x), "a aa aab ab abc b");
        due.is("forms()", x.forms(), 6);
        due.is("form(3, 1)", x.form(3, 1), 1);
        due.is("form(3, 2)", x.form(3, 2), 2);
        due.is("form(2, 1)", x.form(2, 1), 0);
        due.is("form(2, 0)", x.form(2, 0), 3);
        due.is("form(2, 3)", x.form(2, 3), 0);
        due.is("form(2, 4)", x.form(2, 4), -1);
        due.is("form(2, 5)", x.form(2, 5), NOTHING);
        due.is("form(2, 9)", x.form(2, 9), NOTHING);
        due.is("form(2, -1)", x.form(2, -1), NOTHING);
        due.is("form(6, 0)", x.form(6, 0), NOTHING);
        due.is("form(-1, 0)", x.form(-1, 0), NOTHING);
        due.is("word(1, 1, 0)", x.word(1, 1, 0), 2);
        due.is("edition(1, 2)", x.edition(1, 2), 3);
    }

    private static void formsRuled() {
        WordPlaces x = Due.book("vinum vini uino bibo et aqva");
        due.is("rules", Due.rules(x, "stop et;root uinum of uini vino;root aqua of bibo uini;"
            + "fold v to u;fold u to w;fold b to v;"), 6);
        due.are("each letter once, by all folds", Due.allForms(x), "aqua et uini uinwm vivo wino");
        due.is("vini and uini aren't alike", x.form(2, 4), -1);
        due.is("et is a STOP", x.form(1, 3), 1);
        due.is("uini is none", x.form(2, 3), 0);
        due.is("the ROOT of bibo", x.form(4, 4), 1);
        due.is("a ROOT's own FORM is not behind of", x.form(3, 4), -1);
        Due.rules(x, "fold v to u;root vini of vinum;root bibo of uino vinum bibo;");
        due.are("forms", Due.allForms(x), "aqua bibo et uini uino uinum");
        due.is("the first ROOT", x.form(5, 4), 0);
        due.is("the second", x.form(4, 4), 1);
        due.is("bibo is behind its own of", x.form(1, 4), 1);
        due.is("et is no STOP now", x.form(2, 3), 0);
        String long21 = "abcdefghijklmnopqrstu";
        x = Due.book(long21);
        Due.rules(x, "stop abcdefghijklmnopqrstxyz;root a of " + long21 + "v;");
        due.is("the first 20 letters of a STOP", x.form(0, 3), 1);
        due.is("the first 20 letters behind of", x.form(0, 4), 0);
    }

    private static void formsOrdered() {
        WordPlaces x = Due.book("ab a ba b cab z y");
        due.are("without an ORDER", Due.allOrdered(x), "a ab b ba cab y z");
        Due.rules(x, "order zb;");
        due.are("ordered", Due.allOrdered(x), "z b ba a ab cab y");
        due.are("numbers stay by alphabet", Due.allForms(x), "a ab b ba cab y z");
        due.is("ordered(0)", x.ordered(0), 6);
        due.is("ordered(7)", x.ordered(7), -1);
        due.is("ordered(-1)", x.ordered(-1), -1);
        Due.rules(x, "fold b to z;order zb;");
        due.are("LETTERS aren't folded, FORMS are", Due.allOrdered(x), "z za a az caz y");
        Due.line(x, 1, "q");
        due.are("FORMS of both EDITIONS", Due.allOrdered(x), "z za a az caz q y");
    }
}
