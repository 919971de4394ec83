/** Promises 23 to 31: SLIPS, ranks, beginnings, PAGES. */
public final class HandsTest {
    private static final Due due = new Due("HandsTest");
    private static final int NOTHING = -2000000000;

    public static void main(String[] args) {
        slips();
        slipsLater();
        slipsAnew();
        ranks();
        beginnings();
        pages();
        longForms();
        due.end();
    }

    private static void slips() {
        WordPlaces x = Due.book("vinum bibo et", "aqua");
        Due.line(x, 1, "a b c d e f");
        Due.rules(x, "fold v to u;");
        due.is("right", Due.slip(x, 0, 0, "vinum"), 1);
        due.is("the TAPE is empty", x.count(5), 0);
        due.is("right, as FORMS are folded", Due.slip(x, 1, 0, "uinum"), 1);
        due.is("wrong", Due.slip(x, 0, 1, "vivo"), 0);
        due.is("wrong alike", Due.slip(x, 1, 1, "uivo"), 0);
        due.is("wrong else", Due.slip(x, 2, 1, "bib"), 0);
        due.is("wrong", Due.slip(x, 0, 2, "at"), 0);
        due.is("copied(0, 1)", x.copied(0, 1), 1);
        due.is("copied(1, 0)", x.copied(1, 0), 1);
        due.is("copied(0, 2)", x.copied(0, 2), 0);
        due.is("copied(2, 3)", x.copied(2, 3), 0);
        due.is("copied(1, 1)", x.copied(1, 1), -2);
        due.is("copied(4, 0)", x.copied(4, 0), -2);
        due.is("copied(0, -1)", x.copied(0, -1), -2);
        due.is("in place of an older one", Due.slip(x, 0, 2, "et"), 1);
        due.is("count(6)", x.count(6), 6);
        due.is("hand(0, 0)", x.hand(0, 0), 3);
        due.is("hand(0, 1)", x.hand(0, 1), 1);
        due.is("hand(0, 2)", x.hand(0, 2), 1);
        due.is("hand(3, 2)", x.hand(3, 2), 4);
        due.is("hand(0, 3)", x.hand(0, 3), NOTHING);
        due.is("hand(0, -1)", x.hand(0, -1), NOTHING);
        due.is("hand(4, 0)", x.hand(4, 0), NOTHING);
        due.is("hand(-1, 0)", x.hand(-1, 0), NOTHING);
        Due.put(x, "aqua");
        due.is("slip(4, 0)", x.slip(4, 0), -2);
        due.is("slip(-1, 0)", x.slip(-1, 0), -2);
        due.is("slip(0, 4), though EDITION 1 has it", x.slip(0, 4), -2);
        due.is("slip(0, -1)", x.slip(0, -1), -2);
        due.is("the TAPE stays", x.count(5), 4);
        x.end(0);
        due.is("no letters", Due.slip(x, 0, 3, ""), -4);
        due.is("two WORDS", Due.slip(x, 0, 3, "aq ua"), -4);
        due.is("the TAPE is empty by -4", x.count(5), 0);
        due.is("a blank ahead", Due.slip(x, 0, 3, " aqua"), -4);
        due.is("a blank behind", Due.slip(x, 0, 3, "aqua "), -4);
        due.is("21 letters", Due.slip(x, 0, 3, Due.times("a", 21)), -4);
        due.is("20 letters", Due.slip(x, 0, 3, Due.times("a", 20)), 0);
        due.is("count(6)", x.count(6), 7);
    }

    private static void slipsLater() {
        WordPlaces x = Due.book("a b", "c d");
        Due.slip(x, 0, 1, "b");
        Due.slip(x, 0, 3, "d");
        Due.slip(x, 1, 3, "d");
        due.is("hand(0, 1)", x.hand(0, 1), 0);
        Due.put(x, "x a").right(0, 0);
        due.is("what stands there now", x.hand(0, 1), 1);
        Due.put(x, "").right(0, 1);
        due.is("PLACES that there are no more", x.hand(0, 1), 2);
        due.is("hand(0, 0)", x.hand(0, 0), 2);
        due.is("hand(0, 2)", x.hand(0, 2), 1);
        due.is("hand(1, 2)", x.hand(1, 2), 2);
        due.is("copied where there is no PLACE", x.copied(0, 1), 1);
        due.is("count(6)", x.count(6), 3);
        Due.slip(x, 2, 0, "q");
        Due.slip(x, 3, 0, "q");
        due.is("copied at PLACE 0", x.copied(2, 3), 1);
        x = Due.book("a b c");
        Due.slip(x, 0, 2, "c");
        Due.put(x, "a b").right(0, 0);
        due.is("the PLACE behind the last is wrong", x.hand(0, 1), 1);
        due.is("and it is none without a SLIP", x.hand(0, 2), 2);
        x = Due.book("vb");
        Due.slip(x, 0, 0, "ub");
        due.is("wrong", x.hand(0, 1), 1);
        Due.rules(x, "fold v to u;");
        due.is("right now", x.hand(0, 1), 0);
    }

    /** A SLIP's letters are folded as they were written, by the RULES that stand when they are asked for. */
    private static void slipsAnew() {
        WordPlaces x = Due.book("a c", "a");
        Due.slip(x, 0, 0, "a");
        Due.slip(x, 1, 0, "b");
        Due.slip(x, 2, 0, "c");
        Due.slip(x, 3, 0, "d");
        due.are("none folded", wrongs(x), "0111");
        Due.rules(x, "fold a to b;");
        due.are("folded with what stands there", wrongs(x), "0011");
        Due.rules(x, "fold c to d;");
        due.are("the folds ahead are gone", wrongs(x), "0111");
        due.is("alike by a fold told later", x.copied(2, 3), 1);
        due.is("whoever is told first", x.copied(3, 2), 1);
        due.is("wrong, but not alike", x.copied(1, 3), 0);
        due.is("one of them right", x.copied(0, 3), 0);
        due.is("each letter once", Due.rules(x, "fold b to c; fold c to b;"), 2);
        due.are("and not on to where its letter goes", wrongs(x), "0111");
        due.is("two changed for one another", x.copied(1, 2), 0);
        Due.rules(x, "fold b to a; fold c to b;");
        due.are("b is a now, c is b", wrongs(x), "0011");
        x.keep(0);
        Due.put(x, "b").right(0, 0);
        due.are("b is a, which two have not", wrongs(x), "0011");
        x.rules();
        due.are("by no RULES the letters as they were written", wrongs(x), "1011");
        Due.slip(x, 1, 0, "z");
        due.are("written anew", wrongs(x), "1111");
        x.back(0);
        due.are("by the RULES that are back", wrongs(x), "0011");
        x = Due.book("vinum");
        Due.rules(x, "fold v to u;");
        due.is("written as folded", Due.slip(x, 0, 0, "uinum"), 1);
        due.is("written as it stands", Due.slip(x, 1, 0, "vinum"), 1);
        x.rules();
        due.are("unfolded again", wrongs(x), "1000");
        due.is("nothing wrong alike", x.copied(0, 1), 0);
        String letters = Due.times("v", 20);
        Due.put(x, letters).right(0, 0);
        due.is("wrong in its twentieth letter", Due.slip(x, 0, 0, Due.times("v", 19) + "u"), 0);
        Due.rules(x, "fold u to v;");
        due.are("the twentieth letter is folded later", wrongs(x), "0100");
        String most = Due.times("v", 19);
        Due.slip(x, 2, 0, most + "w");
        Due.slip(x, 3, 0, most + "x");
        due.is("unlike in the twentieth letter", x.copied(2, 3), 0);
        Due.rules(x, "fold w to x;");
        due.is("alike in it by a fold told later", x.copied(2, 3), 1);
        due.is("whoever is told first", x.copied(3, 2), 1);
    }

    private static String wrongs(WordPlaces x) {
        StringBuilder text = new StringBuilder();
        for (int h = 0; h < 4; h++) {
            text.append(x.hand(h, 1));
        }
        return text.toString();
    }

    private static String ranking(WordPlaces x) {
        StringBuilder text = new StringBuilder();
        for (int i = 0; x.ranked(i, 0) >= 0; i++) {
            text.append(i > 0 ? " " : "").append(x.ranked(i, 0)).append(':').append(x.ranked(i, 1));
        }
        return text.toString();
    }

    private static void ranks() {
        WordPlaces x = Due.book("a b a", "b c", "d", "b a-", "a b");
        Due.line(x, 1, "c");
        due.is("ranked ahead of any", x.ranked(0, 0), NOTHING);
        due.is("rank", Due.put(x, "a").rank(0), 1);
        due.are("ranked", ranking(x), "0:1000");
        due.is("the TAPE is empty", x.count(5), 0);
        due.is("rank", Due.put(x, "b c, b-b;aa").rank(0), 4);
        due.are("ranked", ranking(x), "1:1250 3:1250 0:250 4:250");
        due.is("ranked(0, 2)", x.ranked(0, 2), NOTHING);
        due.is("ranked(0, -1)", x.ranked(0, -1), NOTHING);
        due.is("ranked(4, 0)", x.ranked(4, 0), NOTHING);
        due.is("ranked(-1, 0)", x.ranked(-1, 0), NOTHING);
        Due.put(x, "d");
        due.is("rank(2)", x.rank(2), -2);
        due.is("rank(-1)", x.rank(-1), -2);
        due.is("the TAPE stays", x.count(5), 1);
        due.are("ranked", ranking(x), "1:1250 3:1250 0:250 4:250");
        x.end(0);
        Due.put(x, "b").right(0, 0);
        due.are("ranked as it was", ranking(x), "1:1250 3:1250 0:250 4:250");
        due.is("no WORDS", Due.put(x, " ., ").rank(0), 0);
        due.are("ranked", ranking(x), "");
        Due.rules(x, "fold q to b;stop d;");
        due.is("STOPS and folded ones", Due.put(x, "qQd").rank(0), 5);
        due.are("rounded down", ranking(x), "2:1000 0:250 1:250 3:250 4:250");
        x = Due.book("a", "a", "a", "a", "a", "a", "a b");
        Due.put(x, "a b").rank(0);
        due.are("rounded down", ranking(x), "6:1142 0:142 1:142 2:142 3:142 4:142 5:142");
    }

    private static String begun(WordPlaces x) {
        StringBuilder text = new StringBuilder();
        for (int i = 0; x.begun(i) >= 0; i++) {
            text.append(i > 0 ? " " : "").append(x.begun(i));
        }
        return text.toString();
    }

    private static void beginnings() {
        WordPlaces x = Due.book("ab abc abd ac b");
        Due.line(x, 1, "abb a");
        Due.rules(x, "fold v to b;stop abc;");
        due.is("begun ahead of any", x.begun(0), -1);
        due.is("begins ab", Due.put(x, "ab").begins(), 4);
        due.are("begun", begun(x), "1 2 3 4");
        due.is("the TAPE is empty", x.count(5), 0);
        due.is("begins av", Due.put(x, "av").begins(), 4);
        due.is("begins A 'a-1b ", Due.put(x, "A 'a-1b ").begins(), 4);
        due.is("begins nothing", x.begins(), 7);
        due.are("begun", begun(x), "0 1 2 3 4 5 6");
        due.is("begins b", Due.put(x, "b").begins(), 1);
        due.are("begun", begun(x), "6");
        due.is("begun(1)", x.begun(1), -1);
        due.is("begun(-1)", x.begun(-1), -1);
        Due.put(x, "z").right(0, 0);
        due.are("of the latest begins()", begun(x), "6");
        due.is("begins abcd", Due.put(x, "abcd").begins(), 0);
        due.is("begins zz", Due.put(x, "zz").begins(), 0);
        due.are("begun", begun(x), "");
        String twenty = "abcdefghijklmnopqrst";
        x = Due.book(twenty + " abcdefghijkl", "abcdefghijk abcdefghij abcdefghi");
        due.is("begins 20", Due.put(x, twenty).begins(), 1);
        due.are("begun", begun(x), "4");
        due.is("begins 21", Due.put(x, twenty + "u").begins(), 0);
        due.is("begins 10", Due.put(x, "abcdefghij").begins(), 4);
        due.is("begins 11", Due.put(x, "abcdefghijk").begins(), 3);
        due.is("begins 9", Due.put(x, "abcdefghi").begins(), 5);
        due.is("begins 9 and blanks", Due.put(x, "abcdefghi" + Due.times(" ", 30)).begins(), 5);
        x = Due.book("abcdefghij abcdefghik", "abcdefghijabcdefghij abcdefghijabcdefghik");
        due.is("begins by the tenth letter", Due.put(x, "abcdefghij").begins(), 3);
        due.is("begins by the tenth letter", Due.put(x, "abcdefghik").begins(), 1);
        due.is("begins by the twentieth letter", Due.put(x, "abcdefghijabcdefghij").begins(), 1);
        due.is("begins by the twentieth letter", Due.put(x, "abcdefghijabcdefghik").begins(), 1);
    }

    private static String printed(WordPlaces x) {
        StringBuilder text = new StringBuilder();
        for (int f = 0; f < x.forms(); f++) {
            text.append(f > 0 ? " " : "").append(x.page(f));
        }
        return text.toString();
    }

    private static void pages() {
        WordPlaces x = Due.book("a b b b b b b c c c c c c c d e");
        Due.line(x, 1, "f a");
        due.is("page ahead of any", x.page(0), -1);
        due.is("a and b 4 rows, c 3: the next", x.print(0, 5), 3);
        due.are("pages", printed(x), "0 0 1 1 2 -1");
        due.is("print(1, 5)", x.print(1, 5), 1);
        due.are("pages", printed(x), "0 -1 -1 -1 -1 0");
        Due.rules(x, "stop b;order ec;");
        due.are("by the latest print()", printed(x), "0 -1 -1 -1 -1 0");
        due.is("e c just fill one, then a d", x.print(0, 5), 2);
        due.are("pages", printed(x), "1 -1 0 1 0 -1");
        due.is("print(0, 4)", x.print(0, 4), -2);
        due.is("print(0, 101)", x.print(0, 101), -2);
        due.is("print(2, 5)", x.print(2, 5), -2);
        due.is("print(-1, 5)", x.print(-1, 5), -2);
        due.are("pages stay", printed(x), "1 -1 0 1 0 -1");
        due.is("page(-1)", x.page(-1), -1);
        due.is("page(6)", x.page(6), -1);
        due.is("page(2147483647)", x.page(2147483647), -1);
        due.is("print(0, 100)", x.print(0, 100), 1);
        due.are("pages", printed(x), "0 -1 0 0 0 -1");
        Due.rules(x, "stop a;stop b;stop c;stop d;stop e;");
        due.is("nothing is printed", x.print(0, 5), 0);
        due.are("pages", printed(x), "-1 -1 -1 -1 -1 -1");
    }

    private static void longForms() {
        // b: 30 PLACES, 6 rows on pages of 5.
        WordPlaces x = Due.book("a", Due.times("b ", 30), "c c", "d");
        due.is("print", x.print(0, 5), 3);
        due.are("b begins the next, c goes on behind it", printed(x), "0 1 2 2");
        due.is("print", x.print(0, 6), 3);
        due.are("b fills one", printed(x), "0 1 2 2");
        Due.rules(x, "order bacd;");
        due.is("print", x.print(0, 5), 3);
        due.are("where nothing stands it begins", printed(x), "1 0 1 2");
        x = Due.book(Due.times("b ", 30), Due.times("b ", 25) + "c");
        due.is("11 rows, then 2", x.print(0, 5), 3);
        due.are("pages", printed(x), "0 2");
    }
}
